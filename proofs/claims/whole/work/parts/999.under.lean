section
/-! palace: the class's text. -/
variable {d w : Nat} {mem m m' m2 : zMem} {Q : Int → zMem → Prop} {b : Nat → Int} {L : Nat}
def eFr (mem m' : zMem) : Prop := (∀ k, k < 53 ∨ k = 54 ∨ 68 < k → m' k = mem k) ∧ m' 53 2 = mem 53 2
theorem dFr.e (h : dFr mem m') : eFr mem m' := ⟨h.1, h.2.1⟩
theorem eFr.trans (h : eFr mem m') (h' : eFr m' m2) : eFr mem m2 := ⟨fun k k1 => by rw [h'.1 k k1, h.1 k k1], by rw [h'.2, h.2]⟩
theorem l_Ta_understand : ∀ (f n i : Nat) (st : zPD) (m : zMem), n + f = L → n ≤ i → i ≤ L → cB m b L → cTk m b L i → pdW st → cD m st → m 53 3 = n → eFr mem m →
    (∀ c p, txF b L f i st n = .inl (c, p) → ∀ m' : zMem, m' 53 4 = c → m' 53 5 = (p : Int) → eFr mem m' → Q 0 m') →
    (∀ k st', txF b L f i st n = .inr (k, st') → ∀ m' : zMem, cD m' st' → pdW st' → m' 53 3 = (k : Int) → m' 53 4 = 0 → eFr mem m' → zC (d + 7) K_Ta_closeText [(2, Int.ofNat 53)] m' (fun r1 m1 => (r1 = 0 ∨ r1 = 1) ∧ Q r1 m1)) → zG (d + 8) M_Ta_understand 48 [(2, Int.ofNat 53), (0, (n : Int))] [] m Q := by
  intro f
  induction f with
  | zero =>
    intro n i st m hn hni hi hB ht hW hd h3 hf hE hK
    have hle := tk_le (b := b) hi
    have k1 : tkK b L i = 1 := hle.2.2.2.2.mpr (by omega)
    have h2 := hB.1
    refine v_Ta_understand_48 ⟨fun _ => hK n st rfl m hd hW h3 (ht.2.2.1 (by omega)).2 hf, fun z => by omega⟩
  | succ f ih =>
    intro n i st m hn hni hi hB ht hW hd h3 hf hE hK
    have hle := tk_le (b := b) hi
    have h2 := hB.1
    have h8 := ht.2.1
    refine v_Ta_understand_48 ⟨fun z => by omega, fun _ => ⟨fun z => ?_, fun z => ?_⟩⟩
    · have k1 : tkK b L i = 1 := by omega
      exact hK n st (by unfold txF; rw [if_pos k1]) m hd hW h3 (ht.2.2.1 (by omega)).2 hf
    · have k1 : tkK b L i ≠ 1 := by omega
      have hx : txF b L (f + 1) i st n = bnd (lnF b L i st) (fun x => txF b L f x.1 x.2 (n + 1)) := by
        show (if tkK b L i = 1 then _ else _) = _
        rw [if_neg k1]
      refine c_Ta_takeLine (d := d) hB hi ht hW hd (fun c p h m1 a1 a2 a3 => ⟨fun q => absurd rfl q, fun _ => hE c p (by rw [hx, h]; rfl) m1 a1 a2 (hf.trans a3.e)⟩) (fun j st' h m1 a1 a2 a3 a4 a5 => ⟨fun _ m4 e4 => ?_, fun q => absurd q (by decide)⟩)
      have hl := lnF_lt hi h
      have hx2 : txF b L (f + 1) i st n = txF b L f j st' (n + 1) := by rw [hx, h]; rfl
      have h3' : m1 53 3 = n := by rw [a5.2.2, h3]
      have hL := hB.2.1
      rw [h3', za (by omega)] at e4
      have f4 : eFr m1 m4 := ⟨fun k hk => by funext x; rw [e4, zup_k (by omega)], by rw [e4, zup_j (by omega)]⟩
      have hB4 : cB m4 b L := by
        have := hB.df a5
        unfold cB at this ⊢
        rw [f4.2, f4.1 54 (by omega)]
        exact this
      have hd4 : cD m4 st' := by
        obtain ⟨⟨h1, h2, h3, h4, h5⟩, y2, y3, y4⟩ := a1
        have ek : ∀ k, k ≠ 53 → m4 k = m1 k := fun k hk => by funext x; rw [e4, zup_k hk]
        refine ⟨⟨h1.fr (fun k k1 k2 => ek k (by omega)), by rw [ek 55 (by omega)]; exact h2, fun p hp => ?_, by rw [ek 55 (by omega)]; exact h4, fun p hp => by rw [ek _ (by omega)]; exact h5 p hp⟩, by rw [e4, zup_j (by omega), y2], by rw [e4, zup_j (by omega), y3], by rw [e4, zup_j (by omega), y4]⟩
        have := h3 p hp
        unfold Ws at this ⊢
        rw [ek _ (by omega)]
        exact this
      refine c_Ta_nextToken (d := d + 4) hB4 hl.2 (by rw [e4, zup_j (by omega), a3]) (by rw [e4, zup_j (by omega), a4]) (fun m5 ht5 hf5 x5 e5 => ?_)
      rw [za (by omega)] at e5
      rw [e5]
      refine ih (n + 1) j st' m5 (by omega) (by omega) hl.2 (hB4.fr hf5) ht5 a2 (hd4.c a2 hf5) (by rw [hf5.2 3 (by omega), e4, zup_e]; rfl) (((hf.trans a5.e).trans f4).trans hf5.df.e) (fun c p h => hE c p (by rw [hx2]; exact h)) (fun k st2 h => hK k st2 (by rw [hx2]; exact h))
end
