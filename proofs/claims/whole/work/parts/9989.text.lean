section
/-! palace: the text. -/
variable {b : Nat → Int} {L i j : Nat}
theorem bnd_r {α β γ : Type} {x : Sum α β} {f : β → Sum α γ} {y : γ} (h : bnd x f = .inr y) : ∃ z, x = .inr z ∧ f z = .inr y := by
  cases x with
  | inl a => exact absurd h (by simp [bnd])
  | inr z => exact ⟨z, rfl, h⟩
theorem numF_le {v : Int × Nat} {lo hi : Int} (hi' : i ≤ L) (h : numF b L i lo hi = .inr v) : i ≤ v.2 ∧ v.2 ≤ L := by
  obtain ⟨v1, v2⟩ := v
  have := (numF_r h).2.2.2
  have hle := tk_le (b := b) hi'
  show i ≤ v2 ∧ v2 ≤ L
  omega
theorem sgnF_le (hi' : i ≤ L) (h : sgnF b L i = .inr j) : i ≤ j ∧ j ≤ L := by
  have := (sgnF_r h).2
  have hle := tk_le (b := b) hi'
  omega
theorem lnF_lt {st st' : zPD} (hi' : i ≤ L) (h : lnF b L i st = .inr (j, st')) : i < j ∧ j ≤ L := by
  have hle := tk_le (b := b) hi'
  unfold lnF at h
  split at h
  · exact absurd h (by simp)
  · split at h
    · exact absurd h (by simp)
    · rename_i c0 c2
      have k2 : tkK b L i = 2 := Classical.byContradiction fun z => c2 z
      have hlt := (hle.2.2.2.1 (by omega)).1
      have hE : tkE b L i ≤ L := hle.2.2.1
      have done : ∀ q, tkE b L i ≤ q → q ≤ L → sgnF b L q = .inr j → i < j ∧ j ≤ L := fun q q1 q2 q3 => by
        have := sgnF_le q2 q3
        omega
      split at h
      · unfold roomsF at h
        split at h
        · exact absurd h (by simp)
        · obtain ⟨v, h1, h2⟩ := bnd_r h
          obtain ⟨q, h3, h4⟩ := bnd_r h2
          have hv := numF_le hE h1
          injection h4 with h4
          injection h4 with h4 h5
          exact done v.2 hv.1 hv.2 (h4 ▸ h3)
      · split at h
        · unfold lawF at h
          split at h
          · exact absurd h (by simp)
          · obtain ⟨v, h1, h2⟩ := bnd_r h
            obtain ⟨q, h3, h4⟩ := bnd_r h2
            have hv := numF_le hE h1
            injection h4 with h4
            injection h4 with h4 h5
            exact done v.2 hv.1 hv.2 (h4 ▸ h3)
        · split at h
          · unfold doorF at h
            split at h
            · exact absurd h (by simp)
            · obtain ⟨v, h1, h2⟩ := bnd_r h
              obtain ⟨u, h3, h4⟩ := bnd_r h2
              have hv := numF_le hE h1
              have hu := numF_le hv.2 h3
              split at h4
              · exact absurd h4 (by simp)
              · obtain ⟨c, h5, h6⟩ := bnd_r h4
                injection h6 with h6
                injection h6 with h6 h7
                unfold endF at h5
                have hlu := tk_le (b := b) hu.2
                split at h5
                · split at h5
                  · exact absurd h5 (by simp)
                  · obtain ⟨q, h8, h9⟩ := bnd_r h5
                    injection h9 with h9
                    rw [← h9] at h6
                    have h6 : q = j := h6
                    exact done _ (by omega) hlu.2.2.1 (h6 ▸ h8)
                · obtain ⟨q, h8, h9⟩ := bnd_r h5
                  injection h9 with h9
                  rw [← h9] at h6
                  have h6 : q = j := h6
                  exact done _ (by omega) hu.2 (h6 ▸ h8)
          · split at h
            · unfold oneF at h
              split at h
              · exact absurd h (by simp)
              · obtain ⟨v, h1, h2⟩ := bnd_r h
                obtain ⟨q, h3, h4⟩ := bnd_r h2
                have hv := numF_le hE h1
                injection h4 with h4
                injection h4 with h4 h5
                exact done v.2 hv.1 hv.2 (h4 ▸ h3)
            · split at h
              · unfold wallF at h
                obtain ⟨v, h1, h2⟩ := bnd_r h
                have hv := numF_le hE h1
                split at h2
                · exact absurd h2 (by simp)
                · obtain ⟨q, h3, h4⟩ := bnd_r h2
                  injection h4 with h4
                  injection h4 with h4 h5
                  exact done v.2 hv.1 hv.2 (h4 ▸ h3)
              · exact absurd h (by simp)
/-- line after line: the lines that were taken; or a fault -/
noncomputable def txF (b : Nat → Int) (L : Nat) : Nat → Nat → zPD → Nat → Sum (Int × Nat) (Nat × zPD)
  | 0, _, st, n => .inr (n, st)
  | f + 1, i, st, n => if tkK b L i = 1 then .inr (n, st) else bnd (lnF b L i st) (fun x => txF b L f x.1 x.2 (n + 1))
end
