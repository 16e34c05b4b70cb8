section
variable {d w : Nat} {mem : zMem} {Q : Int → zMem → Prop} {g : zPg} {rm : Int}
/-- -4 on the page is -1 with the class -/
def zn4 (x : Int) : Int := if x = -4 then -1 else x
/-- a Walker that stands in r, took t last and u before it -/
def Ws (mem : zMem) (w : Nat) (r t u : Int) : Prop := mem w 0 = r ∧ mem w 1 = zn4 t ∧ mem w 2 = zn4 u
theorem zn4_or {x : Int} {n : Int} (h : x = -4 ∨ (0 ≤ x ∧ x < n)) : zn4 x = -1 ∨ (0 ≤ zn4 x ∧ zn4 x < n) := by
  unfold zn4; split
  · exact Or.inl rfl
  · rename_i q; exact Or.inr (h.resolve_left q)
theorem c_Wa_choices (hw : zkd w = 9) (hH : Hs mem 2 g rm) (hD : gDo g) {r t u : Int} (hW : Ws mem w r t u) (hr : 0 ≤ r ∧ r < 10) (ht : t = -4 ∨ (0 ≤ t ∧ t < gN g)) (hu : u = -4 ∨ (0 ≤ u ∧ u < gN g)) (hQ : ∀ v, zI v → (∀ j, j < 32 → (zB v j ↔ gMay g r (zn4 t) (zn4 u) j)) → Q v mem) : zC (d + 2) K_Wa_choices [(2, Int.ofNat w), (2, Int.ofNat 2)] mem Q := by
  refine v_Wa_choices hw ?_
  rw [hW.1, hW.2.1, hW.2.2]
  exact c_Ho_choices (d := d) (Or.inl rfl) hH hD hr (zn4_or ht) (zn4_or hu) hQ
theorem c_Wa_standNew (hw : zkd w = 9) {r : Int} (hQ : ∀ m', Ws m' w r (-4) (-4) → (∀ k, k ≠ w → m' k = mem k) → Q 0 m') : zC (d + 1) K_Wa_standNew [(2, Int.ofNat w), (0, r)] mem Q := by
  refine v_Wa_standNew hw fun m1 e1 m2 e2 m3 e3 => hQ m3 ⟨?_, ?_, ?_⟩ (fun k hk => ?_)
  · rw [e3, zup_j (by omega), e2, zup_j (by omega), e1, zup_e]
  · rw [e3, zup_j (by omega), e2, zup_e]; rfl
  · rw [e3, zup_e]; rfl
  · funext i
    rw [e3, zup_k hk, e2, zup_k hk, e1, zup_k hk]
theorem c_Wa_take {u : Nat} (hw : zkd w = 9) (hu : zkd u = 9) (hwu : u ≠ w) (hQ : ∀ m', m' w 0 = mem u 0 → m' w 1 = mem u 1 → m' w 2 = mem u 2 → (∀ k, k ≠ w → m' k = mem k) → Q 0 m') : zC (d + 1) K_Wa_take [(2, Int.ofNat w), (2, Int.ofNat u)] mem Q := by
  refine v_Wa_take hw hu fun m1 e1 m2 e2 m3 e3 => hQ m3 ?_ ?_ ?_ (fun k hk => ?_)
  · rw [e3, zup_j (by omega), e2, zup_j (by omega), e1, zup_e]
  · rw [e3, zup_j (by omega), e2, zup_e, e1, zup_k hwu]
  · rw [e3, zup_e, e2, zup_k hwu, e1, zup_k hwu]
  · funext i
    rw [e3, zup_k hk, e2, zup_k hk, e1, zup_k hk]
/-- the room behind a door -/
def gBy (g : zPg) (k : Nat) (r : Int) : Int := if gA g k = r then gB g k else gA g k
theorem c_Wa_step (hw : zkd w = 9) (hH : Hs mem 2 g rm) (hD : gDo g) {r t u a : Int} (hW : Ws mem w r t u) (hr : 0 ≤ r ∧ r < 10) (ht : t = -4 ∨ (0 ≤ t ∧ t < gN g)) (hu : u = -4 ∨ (0 ≤ u ∧ u < gN g)) (hw2 : w < 2 ∨ 7 < w)
    (hQ1 : 0 ≤ a ∧ a < gN g → gMay g r (zn4 t) (zn4 u) a.toNat → ∀ m', Ws m' w (gBy g a.toNat r) a t → (∀ k, k ≠ w → m' k = mem k) → Q 1 m')
    (hQ0 : ¬ ((0 ≤ a ∧ a < gN g) ∧ gMay g r (zn4 t) (zn4 u) a.toNat) → Q 0 mem) : zC (d + 3) K_Wa_step [(2, Int.ofNat w), (2, Int.ofNat 2), (0, a)] mem Q := by
  have hN := hD.1
  have hn := hH.2.2.1
  refine v_Wa_step hw (c_Ho_hasDoor (d := d + 1) (Or.inl rfl) (fun c => ⟨fun q => absurd q (by decide), fun _ => ?_⟩) (fun c => ⟨fun _ => hQ0 (fun q => c (by omega)), fun q => absurd rfl q⟩))
  rw [hn] at c
  refine c_Wa_choices (d := d) hw hH hD hW hr ht hu fun v hv hb => ⟨fun c2 => ?_, fun c2 => hQ0 fun q => ?_⟩
  · rw [zB_ne hv c.1 (by omega), hb _ (by omega)] at c2
    refine c_Ho_beyond (d := d + 1) (Or.inl rfl) hH (by omega) c fun m4 e4 m5 e5 m6 e6 => hQ1 c c2 m6 ⟨?_, ?_, ?_⟩ (fun k hk => ?_)
    · rw [e6, zup_j (by omega), e5, zup_j (by omega), e4, zup_e, hW.1]; rfl
    · rw [e6, zup_e]
      unfold zn4; rw [if_neg (by omega)]
    · rw [e6, zup_j (by omega), e5, zup_e, e4, zup_j (by omega), hW.2.1]
    · funext i
      rw [e6, zup_k hk, e5, zup_k hk, e4, zup_k hk]
  · rw [zB_test hv c.1 (by omega), hb _ (by omega)] at c2
    exact c2 q.2
theorem zPa_wk {p : Nat} (hp : zPa p) {i : Nat} (hi : i < 5) : zrt (p + 7) i = p + 8 + i ∧ zkd (p + 8 + i) = 9 := by
  have h : ∀ i, i < 5 → zrt (p + 7) i = p + 8 + i ∧ zkd (p + 8 + i) = 9 := by rcases hp with rfl | rfl | rfl | rfl <;> decide +kernel
  exact h i hi
/-- a Palace that holds the page: house, people, the walk that is told -/
def Ps (mem : zMem) (p : Nat) (g : zPg) (rm : Int) : Prop :=
  Hs mem (p + 1) g rm ∧ mem p 2 = gP g ∧ (∀ i : Nat, (i : Int) < gP g → Ws mem (p + 8 + i) (gR g i) (gT g i) (gU g i)) ∧ mem p 4 = gW g ∧ ∀ i : Nat, (i : Int) < gW g → mem (p + 13) i = g (74 + i)
/-- a page is a palace's page -/
def gWf (g : zPg) (rm : Int) : Prop :=
  gDo g ∧ (0 < rm ∧ rm ≤ 10) ∧ (∀ k : Nat, (k : Int) < gN g → gA g k < rm ∧ gB g k < rm) ∧ (0 ≤ gP g ∧ gP g ≤ 5) ∧ (∀ i : Nat, (i : Int) < gP g → gWk g rm i) ∧ (0 ≤ gW g ∧ gW g ≤ 12) ∧ ∀ i : Nat, (i : Int) < gW g → 0 ≤ g (74 + i) ∧ g (74 + i) < gN g
theorem c_Pa_hasOne {p : Nat} (hp : zPa p) (hP : Ps mem p g rm) {a : Int} (hQ1 : 0 ≤ a ∧ a < gP g → Q 1 mem) (hQ0 : ¬ (0 ≤ a ∧ a < gP g) → Q 0 mem) : zC (d + 1) K_Pa_hasOne [(2, Int.ofNat p), (0, a)] mem Q := by
  have h2 := hP.2.1
  exact v_Pa_hasOne hp ⟨fun c => hQ0 (by omega), fun c => ⟨fun c2 => hQ0 (by omega), fun c2 => hQ1 (by omega)⟩⟩
end
