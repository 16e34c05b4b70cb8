section
/-! palace: words. -/
variable {d w : Nat} {mem m m' m2 : zMem} {Q : Int → zMem → Prop} {b : Nat → Int} {L i s e k : Nat}
def wl (k : Nat) : Nat := zSl.getD k 0
def wd (b : Nat → Int) (s e k : Nat) : Prop := e - s = wl k ∧ ∀ j, j < wl k → b (s + j) = zSc k j
theorem wl_k : ∀ k, k < 8 → ((zSl.getD k 0 : Nat) : Int) = (wl k : Int) ∧ 0 < wl k ∧ wl k ≤ 6 ∧ zm0 126 (k + 1) - zm0 126 k = (wl k : Int) ∧ 0 ≤ zm0 126 k ∧ zm0 126 k + wl k ≤ 33 := by decide +kernel
theorem zSc_k : ∀ k, k < 8 → ∀ j, j < wl k → 97 ≤ zSc k j ∧ zSc k j ≤ 122 ∧ zm0 127 ((zm0 126 k).toNat + j) = zSc k j := by decide +kernel
theorem c_Ta_isWord (hk : k < 8) (hB : cB mem b L) (hse : s ≤ e ∧ e ≤ L) (h7 : mem 53 7 = s) (h6 : mem 53 8 = 2 → mem 53 6 = e) (hQ1 : mem 53 8 = 2 → wd b s e k → Q 1 mem) (hQ0 : ¬ (mem 53 8 = 2 ∧ wd b s e k) → Q 0 mem) : zC (d + 4) K_Ta_isWord [(2, Int.ofNat 53), (3, (k : Int))] mem Q := by
  obtain ⟨b1, b2, b3⟩ := hB
  obtain ⟨l1, l2, l3, -⟩ := wl_k k hk
  refine v_Ta_isWord (by omega) ⟨fun c => hQ0 (fun z => c z.1), fun c => c_Js_length (d := d + 1) (by omega) ?_⟩
  rw [Int.toNat_natCast, l1, h6 c, h7, zs (by omega)]
  refine ⟨fun c1 => ?_, fun c1 => hQ0 (fun z => by have := z.2.1; omega)⟩
  have loop : ∀ (n j : Nat), j + n = wl k → (∀ x, x < j → b (s + x) = zSc k x) → zG (d + 4) M_Ta_isWord 28 [(2, Int.ofNat 53), (3, (k : Int)), (0, (j : Int))] [] mem Q := by
    intro n
    induction n with
    | zero =>
      intro j hj hx
      refine v_Ta_isWord_28 (by omega) (c_Js_length (d := d + 1) (by omega) ?_)
      rw [Int.toNat_natCast, l1]
      exact ⟨fun _ => hQ1 c ⟨by omega, fun x hx' => hx x (by omega)⟩, fun z => by omega⟩
    | succ n ih =>
      intro j hj hx
      refine v_Ta_isWord_28 (by omega) (c_Js_length (d := d + 1) (by omega) ?_)
      rw [Int.toNat_natCast, l1, h7, za (by omega)]
      refine ⟨fun z => by omega, fun _ => ⟨by omega, c_Js_charAt (d := d) (by omega) (by rw [Int.toNat_natCast, l1]; omega) ?_⟩⟩
      rw [Int.toNat_natCast, Int.toNat_natCast, show ((s : Int) + (j : Int)).toNat = s + j by omega]
      obtain ⟨z1, z2, -⟩ := zSc_k k hk j (by omega)
      have hb := b3 (s + j) (by omega)
      refine ⟨fun y x3 e3 => ?_, fun y => hQ0 (fun z => y ?_)⟩
      · rw [za (by omega)] at e3
        rw [e3]
        refine ih (j + 1) (by omega) (fun x hx' => ?_)
        by_cases q : x = j
        · rw [q]; omega
        · exact hx x (by omega)
      · have := z.2.2 j (by omega)
        omega
  exact loop (wl k) 0 (by omega) (fun x hx => by omega)
/-- the first word that it is -/
def nmW (b : Nat → Int) (s e : Nat) (r : Int) : Prop := (∃ k : Nat, k < 8 ∧ r = k ∧ wd b s e k ∧ ∀ j, j < k → ¬ wd b s e j) ∨ (r = -4 ∧ ∀ k, k < 8 → ¬ wd b s e k)
theorem c_Mo_nameHere (hB : rB mem b L) (hse : s ≤ e ∧ e ≤ L) (h15 : mem 122 15 = s) (h14 : mem 122 16 = 1 → mem 122 14 = e) (hQ1 : mem 122 16 = 1 → ∀ r, nmW b s e r → Q r mem) (hQ0 : mem 122 16 ≠ 1 → Q (-4) mem) : zC (d + 2) K_Mo_nameHere [(2, Int.ofNat 122)] mem Q := by
  obtain ⟨b1, b2, b3, b4, b5⟩ := id hB
  have loop : ∀ (n k : Nat), k + n = 8 → (∀ j, j < k → ¬ wd b s e j) → zG (d + 2) M_Mo_nameHere 2 [(2, Int.ofNat 122), (0, (k : Int)), (9, 0), (9, 0)] [] mem Q := by
    intro n
    induction n with
    | zero =>
      intro k hk hno
      by_cases c : mem 122 16 = 1
      · exact v_Mo_nameHere_2 ⟨fun _ => hQ1 c _ (Or.inr ⟨rfl, fun j hj => hno j (by omega)⟩), fun z => by omega⟩
      · exact v_Mo_nameHere_2 ⟨fun _ => hQ0 c, fun z => by omega⟩
    | succ n ih =>
      intro k hk hno
      obtain ⟨l1, l2, l3, l4, l5, l6⟩ := wl_k k (by omega)
      refine v_Mo_nameHere_2 ⟨fun z => by omega, fun _ => ⟨fun c => hQ0 c, fun c => ⟨by rw [za (by omega)]; omega, by omega, ?_⟩⟩⟩
      have hle : zm0 126 (k + 1) ≤ 40 := by omega
      have hcut : zsub (mem 126 (zadd (k : Int) 1).toNat) (mem 126 (k : Int).toNat) = (wl k : Int) := by
        rw [za (by omega), show ((k : Int) + 1).toNat = k + 1 by omega, Int.toNat_natCast, b4 (k + 1) (by omega), b4 k (by omega), zs (by omega)]
        exact l4
      rw [h14 c, h15, zs (by omega), hcut]
      have nxt : ¬ wd b s e k → ∀ x1 : Int, x1 = zadd (k : Int) 1 → zG (d + 2) M_Mo_nameHere 2 [(2, Int.ofNat 122), (0, x1), (9, 0), (9, 0)] [] mem Q := by
        intro hw x1 e1
        rw [za (by omega)] at e1
        rw [e1]
        refine ih (k + 1) (by omega) (fun j hj => ?_)
        by_cases q : j = k
        · rw [q]; exact hw
        · exact hno j (by omega)
      have off : ∀ l3 : Int, ¬ wd b s e k → zG (d + 2) M_Mo_nameHere 51 [(2, Int.ofNat 122), (0, (k : Int)), (0, 0), (0, l3)] [] mem Q := fun l3 hw => v_Mo_nameHere_51 ⟨fun _ => ⟨fun _ => nxt hw, fun q => absurd rfl q⟩, fun q => absurd rfl q⟩
      refine ⟨fun c1 => off 0 (fun z => by have := z.1; omega), fun c1 => ?_⟩
      have on : ∀ (n j : Nat), j + n = wl k → (∀ x, x < j → b (s + x) = zSc k x) → zG (d + 2) M_Mo_nameHere 51 [(2, Int.ofNat 122), (0, (k : Int)), (0, 1), (0, (j : Int))] [] mem Q := by
        intro n
        induction n with
        | zero =>
          intro j hj hx
          refine v_Mo_nameHere_51 ⟨fun q => absurd q (by decide), fun _ => ?_⟩
          rw [h14 c, h15, zs (by omega)]
          exact ⟨fun _ => ⟨fun q => absurd q (by decide), fun _ => hQ1 c _ (Or.inl ⟨k, by omega, rfl, ⟨by omega, fun x hx' => hx x (by omega)⟩, hno⟩)⟩, fun z => by omega⟩
        | succ n ih2 =>
          intro j hj hx
          refine v_Mo_nameHere_51 ⟨fun q => absurd q (by decide), fun _ => ?_⟩
          rw [h14 c, h15, zs (by omega), za (x := (s : Int)) (by omega), show (s : Int) + (j : Int) = ((s + j : Nat) : Int) by omega]
          refine ⟨fun z => by omega, fun _ => c_Mo_byteAt (d := d) hB (fun hl => ⟨by omega, ?_⟩) (fun z => by omega)⟩
          rw [Int.toNat_natCast, b4 k (by omega), za (by omega), show (zm0 126 k + (j : Int)).toNat = (zm0 126 k).toNat + j by omega, b5 _ (by omega), (zSc_k k (by omega) j (by omega)).2.2]
          refine ⟨by omega, fun y x6 e6 => off x6 (fun z => y (z.2 j (by omega))), fun y x7 e7 => ?_⟩
          rw [za (by omega)] at e7
          rw [e7]
          refine ih2 (j + 1) (by omega) (fun x hx' => ?_)
          by_cases q : x = j
          · rw [q]; exact y
          · exact hx x (by omega)
      exact on (wl k) 0 (by omega) (fun x hx => by omega)
  exact v_Mo_nameHere (loop 8 0 (by omega) (fun j hj => by omega))
theorem wd_ne : ∀ k, k < 8 → ∀ k', k' < 8 → k ≠ k' → ¬ (wl k = wl k' ∧ ∀ j, j < wl k → zSc k j = zSc k' j) := by decide +kernel
theorem wd_fn {k' : Nat} (hk : k < 8) (hk' : k' < 8) (h : wd b s e k) (h' : wd b s e k') : k = k' := by
  refine Classical.byContradiction fun q => wd_ne k hk k' hk' q ⟨?_, fun j hj => ?_⟩
  · rw [← h.1, ← h'.1]
  · rw [← h.2 j hj, ← h'.2 j (by rw [← h'.1, h.1]; exact hj)]
theorem nmW_k (hk : k < 8) (h : wd b s e k) {r : Int} (hr : nmW b s e r) : r = k := by
  rcases hr with ⟨j, j1, j2, j3, -⟩ | ⟨-, q⟩
  · rw [j2, wd_fn j1 hk j3 h]
  · exact absurd h (q k hk)
end
