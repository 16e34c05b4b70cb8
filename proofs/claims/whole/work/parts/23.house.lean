section
/-! The page (the reference's words for a palace), and how a House holds it. -/
theorem zC.rg {d : Nat} {K : zKey} {av : List zV} {mem : zMem} {Q : Int → zMem → Prop} (h : (∀ v ∈ av, zok v) → zrg mem → zC d K av mem Q) : zC d K av mem Q := by
  intro l E d' hd p e ha hc hk s m args below hf hs hp hK
  exact h hp.2.1 hp.2.2.2.1 l E d' hd p e ha hc hk s m args below hf hs hp hK
theorem zrg_i {mem : zMem} (h : zrg mem) {k : Nat} (hk : zkd k ≠ 103) (j : Nat) : zI (mem k j) := (h k j).2 hk
abbrev zPg : Type := Nat → Int
def gA (g : zPg) (d : Nat) : Int := g (4 * d)
def gB (g : zPg) (d : Nat) : Int := g (4 * d + 1)
def gC (g : zPg) (d : Nat) : Int := g (4 * d + 2)
def gX (g : zPg) (d : Nat) : Int := g (4 * d + 3)
/-- doors, law, people, walk -/
def gN (g : zPg) : Int := g 56
def gL (g : zPg) : Int := g 73
def gP (g : zPg) : Int := g 72
def gW (g : zPg) : Int := g 86
/-- an open door of a room -/
def gO (g : zPg) (r : Int) (k : Nat) : Prop := (k : Int) < gN g ∧ gX g k = 0 ∧ (gA g k = r ∨ gB g k = r)
/-- the law bars a door (last, ahead: below 0 there is none) -/
def gBar (g : zPg) (last ahead : Int) (k : Nat) : Prop := 0 ≤ last ∧ ((gL g = 0 ∧ (k : Int) = last) ∨ (gL g = 1 ∧ ((k : Int) = last ∨ (k : Int) = ahead)) ∨ (gL g = 2 ∧ gC g k = gC g last.toNat))
def gMay (g : zPg) (r last ahead : Int) (k : Nat) : Prop := gO g r k ∧ ¬ gBar g last ahead k
/-- the doors are doors -/
def gDo (g : zPg) : Prop := (0 ≤ gN g ∧ gN g ≤ 14) ∧ (0 ≤ gL g ∧ gL g ≤ 3) ∧ ∀ k : Nat, (k : Int) < gN g → (0 ≤ gA g k ∧ gA g k < 10) ∧ (0 ≤ gB g k ∧ gB g k < 10) ∧ gA g k ≠ gB g k ∧ (0 ≤ gC g k ∧ gC g k < 4) ∧ (gX g k = 0 ∨ gX g k = 1)
/-- a House at h holds the page -/
def Hs (mem : zMem) (h : Nat) (g : zPg) (rm : Int) : Prop :=
  mem h 0 = rm ∧ mem h 1 = gL g ∧ mem h 2 = gN g ∧ (∀ k, k < 32 → (zB (mem h 3) k ↔ (k : Int) < gN g ∧ gX g k = 1)) ∧
  (∀ k : Nat, (k : Int) < gN g → mem (h + 1) k = gA g k ∧ mem (h + 2) k = gB g k ∧ mem (h + 3) k = gC g k) ∧
  (∀ r : Nat, r < 10 → ∀ k, k < 32 → (zB (mem (h + 4) r) k ↔ gO g r k)) ∧
  (∀ c : Nat, c < 4 → ∀ k, k < 32 → (zB (mem (h + 5) c) k ↔ (k : Int) < gN g ∧ gC g k = c))
theorem zHo_kd {h : Nat} (hh : zHo h) : zkd h ≠ 103 ∧ zkd (h + 1) ≠ 103 ∧ zkd (h + 2) ≠ 103 ∧ zkd (h + 3) ≠ 103 ∧ zkd (h + 4) ≠ 103 ∧ zkd (h + 5) ≠ 103 := by
  rcases hh with rfl | rfl | rfl | rfl <;> decide +kernel
variable {d h : Nat} {mem : zMem} {g : zPg} {rm : Int} {Q : Int → zMem → Prop}
theorem c_Ho_hasRoom (hh : zHo h) {r : Int} (hQ1 : 0 ≤ r ∧ r < mem h 0 → Q 1 mem) (hQ0 : ¬ (0 ≤ r ∧ r < mem h 0) → Q 0 mem) : zC (d + 1) K_Ho_hasRoom [(2, Int.ofNat h), (0, r)] mem Q :=
  v_Ho_hasRoom hh ⟨fun c => hQ0 (by omega), fun c => ⟨fun c => hQ0 (by omega), fun c2 => hQ1 (by omega)⟩⟩
theorem c_Ho_hasDoor (hh : zHo h) {r : Int} (hQ1 : 0 ≤ r ∧ r < mem h 2 → Q 1 mem) (hQ0 : ¬ (0 ≤ r ∧ r < mem h 2) → Q 0 mem) : zC (d + 1) K_Ho_hasDoor [(2, Int.ofNat h), (0, r)] mem Q :=
  v_Ho_hasDoor hh ⟨fun c => hQ0 (by omega), fun c => ⟨fun c => hQ0 (by omega), fun c2 => hQ1 (by omega)⟩⟩
theorem c_Ho_isWalled (hh : zHo h) (hH : Hs mem h g rm) (hN : gN g ≤ 14) {k : Int} (hk : 0 ≤ k ∧ k < gN g) (hQ1 : gX g k.toNat = 1 → Q 1 mem) (hQ0 : gX g k.toNat ≠ 1 → Q 0 mem) : zC (d + 1) K_Ho_isWalled [(2, Int.ofNat h), (0, k)] mem Q := by
  refine zC.rg fun _ hr => ?_
  have hz : zI (mem h 3) := zrg_i hr (zHo_kd hh).1 3
  have hw := hH.2.2.2.1 k.toNat (by omega)
  refine v_Ho_isWalled hh ⟨fun c => hQ0 ?_, fun c => hQ1 ?_⟩
  · rw [zB_test hz hk.1 (by omega)] at c
    intro q
    exact c (hw.mpr ⟨by omega, q⟩)
  · rw [zB_ne hz hk.1 (by omega)] at c
    exact (hw.mp c).2
theorem c_Ho_choices (hh : zHo h) (hH : Hs mem h g rm) (hD : gDo g) {r last ahead : Int} (hr : 0 ≤ r ∧ r < 10) (hl : last = -1 ∨ (0 ≤ last ∧ last < gN g)) (ha : ahead = -1 ∨ (0 ≤ ahead ∧ ahead < gN g))
    (hQ : ∀ v, zI v → (∀ k, k < 32 → (zB v k ↔ gMay g r last ahead k)) → Q v mem) : zC (d + 1) K_Ho_choices [(2, Int.ofNat h), (0, r), (0, last), (0, ahead)] mem Q := by
  refine zC.rg fun _ hrg => ?_
  obtain ⟨h0, h1, h2, h3, h4, h5, h6⟩ := hH
  obtain ⟨hN, hL, hd⟩ := hD
  have ho : ∀ k, k < 32 → (zB (mem (h + 4) r.toNat) k ↔ gO g r k) := fun k hk => by
    rw [h5 r.toNat (by omega) k hk, Int.toNat_of_nonneg hr.1]
  refine v_Ho_choices hh ⟨hr, fun x1 e1 => ⟨fun c => hQ _ (e1 ▸ zrg_i hrg (zHo_kd hh).2.2.2.2.1 _) (fun k hk => ?_), fun c => ⟨fun c2 => ⟨fun c3 x2 e2 => ⟨fun c4 => hQ _ (e2 ▸ zand_I _ _) (fun k hk => ?_), fun c4 => ⟨fun c5 => hQ _ (e2 ▸ zand_I _ _) (fun k hk => ?_), fun c5 => hQ _ (zand_I _ _) (fun k hk => ?_)⟩⟩, fun c3 => ⟨by omega, ⟨?_, hQ _ (zand_I _ _) (fun k hk => ?_)⟩⟩⟩, fun c2 => hQ _ (e1 ▸ zrg_i hrg (zHo_kd hh).2.2.2.2.1 _) (fun k hk => ?_)⟩⟩⟩
  · rw [e1, ho k hk]; unfold gMay gBar gO; omega
  · rw [e2, e1, zB_and, zB_not _ hk, zB_shl (by omega) (by omega), ho k hk]; unfold gMay gBar gO; omega
  · rw [e2, e1, zB_and, zB_not _ hk, zB_shl (by omega) (by omega), ho k hk]; unfold gMay gBar gO; omega
  · rw [e2, e1, zB_and, zB_and, zB_not _ hk, zB_not _ hk, zB_shl (by omega) (by omega), zB_shl (by omega) (by omega), ho k hk]; unfold gMay gBar gO; omega
  · have := (h4 last.toNat (by omega)).2.2
    have := (hd last.toNat (by omega)).2.2.2.1
    omega
  · have e3 := (h4 last.toNat (by omega)).2.2
    have e4 := (hd last.toNat (by omega)).2.2.2.1
    rw [e1, zB_and, zB_not _ hk, ho k hk, h6 _ (by omega) k hk, e3]
    unfold gMay gBar gO
    omega
  · rw [e1, ho k hk]; unfold gMay gBar gO; omega
end
