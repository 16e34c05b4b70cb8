section
/-! palace: the class's text, its beginning. -/
variable {d w : Nat} {mem m m' m2 : zMem} {Q : Int → zMem → Prop} {b : Nat → Int} {L : Nat}
def st0 : zPD := (fun _ => 0, 4, 0, 0, 0)
theorem st0_W : pdW st0 := by
  refine ⟨⟨⟨Int.le_refl _, by show (0 : Int) ≤ 14; omega⟩, ⟨Int.le_refl _, by show (0 : Int) ≤ 3; omega⟩, fun k hk => ?_⟩, by show (2 : Int) ≤ 4 ∧ (4 : Int) ≤ 10; omega, by show (0 : Int) ≤ 0 ∧ (0 : Int) ≤ 5; omega, rfl, fun k hk => rfl, fun p hp => ?_, Or.inl rfl, Or.inl rfl, by show (0 : Int) ≤ 0 ∧ (0 : Int) < 16384; omega⟩
  · have hk : (k : Int) < 0 := hk
    omega
  · have hp : (p : Int) < 0 := hp
    omega
theorem c_Ta_understand (hB : cB mem b L)
    (hE : ∀ c p, txF b L L 0 st0 0 = .inl (c, p) → ∀ m' : zMem, m' 53 4 = c → m' 53 5 = (p : Int) → eFr mem m' → Q 0 m')
    (hK : ∀ k st', txF b L L 0 st0 0 = .inr (k, st') → ∀ m' : zMem, cD m' st' → pdW st' → m' 53 3 = (k : Int) → m' 53 4 = 0 → eFr mem m' → zC (d + 7) K_Ta_closeText [(2, Int.ofNat 53)] m' (fun r1 m1 => (r1 = 0 ∨ r1 = 1) ∧ Q r1 m1)) : zC (d + 8) K_Ta_understand [(2, Int.ofNat 53)] mem Q := by
  refine v_Ta_understand (v_Pa_clear (d := d + 6) (p := 55) (Or.inr (Or.inr (Or.inr rfl))) (c_Ho_clear (d := d + 4) (h := 56) (g := fun _ => 0) (Or.inr (Or.inr (Or.inr rfl))) rfl rfl (fun m1 hH hk1 m2 e2 m3 e3 m4 e4 m5 e5 m6 e6 m7 e7 m8 e8 m9 e9 m10 e10 => ?_)))
  have k53 : ∀ k, k ≠ 53 → m10 k = m3 k := fun k hk => by funext x; rw [e10, zup_k hk, e9, zup_k hk, e8, zup_k hk, e7, zup_k hk, e6, zup_k hk, e5, zup_k hk, e4, zup_k hk]
  have k3 : ∀ k, k < 55 ∨ 61 < k → m3 k = mem k := fun k hk => by funext x; rw [e3, zup_k (by omega), e2, zup_k (by omega), hk1 k (by omega)]
  have s2 : m10 53 2 = mem 53 2 := by rw [e10, zup_j (by omega), e9, zup_j (by omega), e8, zup_j (by omega), e7, zup_j (by omega), e6, zup_j (by omega), e5, zup_j (by omega), e4, zup_j (by omega), k3 53 (by omega)]
  have s3 : m10 53 3 = 0 := by rw [e10, zup_j (by omega), e9, zup_j (by omega), e8, zup_j (by omega), e7, zup_j (by omega), e6, zup_j (by omega), e5, zup_j (by omega), e4, zup_e]
  have s4 : m10 53 4 = 0 := by rw [e10, zup_j (by omega), e9, zup_j (by omega), e8, zup_j (by omega), e7, zup_j (by omega), e6, zup_j (by omega), e5, zup_e]
  have s6 : m10 53 6 = 0 := by rw [e10, zup_j (by omega), e9, zup_j (by omega), e8, zup_j (by omega), e7, zup_e]
  have f10 : eFr mem m10 := ⟨fun k hk => by rw [k53 k (by omega), k3 k (by omega)], s2⟩
  have hB10 : cB m10 b L := by
    unfold cB at hB ⊢
    rw [s2, f10.1 54 (by omega)]
    exact hB
  have hd : cD m10 st0 := by
    refine ⟨⟨hH.fr (fun k k1 k2 => ?_), ?_, fun p hp => ?_, ?_, fun p hp => ?_⟩, ?_, ?_, ?_⟩
    · funext x
      rw [k53 k (by omega), e3, zup_k (by omega), e2, zup_k (by omega)]
    · show m10 55 2 = 0
      rw [k53 55 (by omega), e3, zup_j (by omega), e2, zup_e]
    · have hp : (p : Int) < 0 := hp
      omega
    · show m10 55 4 = 0
      rw [k53 55 (by omega), e3, zup_e]
    · have hp : (p : Int) < 0 := hp
      omega
    · show m10 53 10 = 0
      rw [e10, zup_j (by omega), e9, zup_j (by omega), e8, zup_e]
    · show m10 53 11 = 0
      rw [e10, zup_j (by omega), e9, zup_e]
    · show m10 53 12 = 0
      rw [e10, zup_e]
  refine c_Ta_nextToken (d := d + 4) (i := 0) hB10 (by omega) s6 s4 (fun m11 ht hf => ?_)
  exact l_Ta_understand (d := d) L 0 0 st0 m11 (by omega) (by omega) (by omega) (hB10.fr hf) ht st0_W (hd.c st0_W hf) (by rw [hf.2 3 (by omega), s3]; rfl) (f10.trans hf.df.e) hE hK
end
