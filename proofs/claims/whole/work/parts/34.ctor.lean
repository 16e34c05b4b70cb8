section
variable {T : List z1m} {dd : Nat} {M : z1m} {lim : Nat × Nat} {S0 S' : List z1c} {pc th : Nat} {st : List zV} {S : List z1c} {k : Nat → List zV → List z1c → Option (List z1c)} {cl : Nat → Nat → List z1c → Option (List z1c)}
theorem zat_cons {α : Type} (i : Nat) (a : α) (r : List (Nat × α)) (j : Nat) : zat ((i, a) :: r) j = if j = i then some a else zat r j := by
  show (match Nat.beq i j with | true => some a | false => zat r j) = _
  by_cases h : j = i
  · subst h
    rw [if_pos rfl, Nat.beq_refl]
  · rw [if_neg h]
    have hb : Nat.beq i j = false := by
      cases hb : Nat.beq i j
      · rfl
      · exact absurd (Nat.eq_of_beq_eq_true hb).symm h
    rw [hb]
theorem z1f_cons (kd n : Nat) (f : List (Nat × Int)) (w : List (Nat × Nat)) (i : Nat) (x : Int) (j : Nat) : z1f (kd, n, (i, x) :: f, w) j = if j = i then x else z1f (kd, n, f, w) j := by
  unfold z1f
  dsimp only
  rw [zat_cons]
  split <;> rfl
theorem z1r_cons (kd n : Nat) (f : List (Nat × Int)) (w : List (Nat × Nat)) (i v : Nat) (j : Nat) : z1r (kd, n, f, (i, v) :: w) j = if j = i then some v else z1r (kd, n, f, w) j := by
  unfold z1r
  dsimp only
  rw [zat_cons]
theorem z1_iastore (hM : z1OK T M) {len : Nat} (hat : zat (z1Mc M) pc = some (.iastore, len)) (hk : ∀ pc st S S', k pc st S = some S' → z1G dd M lim S0 S' pc th st S) (h : z1one M lim .iastore pc th st S k cl = some S') : z1G dd M lim S0 S' pc th st S := by
  obtain ⟨hd, hq⟩ := hM.1 _ (zat_mem hat)
  dsimp only at hd hq
  have e := Nat.eq_of_beq_eq_true hq
  subst e
  intro p l e R s m args below meth c H locs cells slots Qf E lj C hl1 hl2 hc hs hH hS hL hl0 hR
  obtain ⟨hx, hb, hml, hown, hts, hfr, hlo, hin, hOn, hbs⟩ := id C
  unfold z1one at h
  dsimp only at h
  split at h
  · rename_i x i a r
    split at h
    · rename_i kd n f w hSa
      split at h
      · rename_i hbn
        simp only [Bool.and_eq_true] at hbn
        have hi : i < n := Nat.le_of_ble_eq_true hbn.1.1
        have hn : n ≤ 100000 := Nat.le_of_ble_eq_true hbn.1.2
        have hkd : kd = 100 := Nat.eq_of_beq_eq_true hbn.2
        subst hkd
        have ha := z1ws_at E hSa
        have hin := zNat_in hn hi
        have hel : ∀ f' : List (Nat × Int), z1el E (100, n, f', w) = .inl (zEc E 100, n, .inl fun j => Int32.ofInt (z1f (100, n, f', w) j)) := fun f' => by
          unfold z1el
          rw [if_neg (show ¬ 100 < 100 by decide), if_pos (show 100 < 103 by decide)]
        rw [hel] at ha
        refine W.iast (g := F0 m pc lj (.int (Int32.ofInt x) :: .int (Int32.ofInt (Int.ofNat i)) :: .ref (zEb E + a) :: r.map (zv E))) hx hb (hH.2 a _ ha) ((hOn.1.2 0 _ rfl).1 n (fun j => .int (Int32.ofInt (z1f (100, n, f, w) j)))) (fun q => by cases q) (by show ¬ (_ ∨ (arrV _ _ _).slots.size ≤ _); rw [arrV_size]; exact hin) rfl rfl hd (fun H1 e1 z oq => ?_)
        have hP : va_P (zED E) vwCl ((z1ws E S).set a (zEb E + a, z1el E (100, n, (i, x) :: f, w))) H1 := by
          refine hH.2.set (z1ws_D E S) ha ?_ oq
          rw [hel]
          show H1[zEb E + a]? = some (vp_cell _ _)
          rw [e1, vp_cell_i, vp_cell_i, arrV_store, zNat_cl (by omega)]
          congr 2
          funext j
          rw [z1f_cons]
          unfold updV
          split <;> rfl
        exact hk _ _ _ _ h p l e R s m args below meth c H1 _ cells slots Qf E lj C hl1 hl2 (by rw [List.length_set]; exact hc) (by rw [z1s_set _ _ _ _ hSa (by rfl)]; exact hs) (z1H_set hH hSa z rfl hP) (hS.put z oq (Nat.le_add_right _ _)) hL hl0 hR
      · cases h
    · cases h
  · cases h
theorem z1_aastore (hM : z1OK T M) {len : Nat} (hat : zat (z1Mc M) pc = some (.aastore, len)) (hk : ∀ pc st S S', k pc st S = some S' → z1G dd M lim S0 S' pc th st S) (h : z1one M lim .aastore pc th st S k cl = some S') : z1G dd M lim S0 S' pc th st S := by
  obtain ⟨hd, hq⟩ := hM.1 _ (zat_mem hat)
  dsimp only at hd hq
  have e := Nat.eq_of_beq_eq_true hq
  subst e
  intro p l e R s m args below meth c H locs cells slots Qf E lj C hl1 hl2 hc hs hH hS hL hl0 hR
  obtain ⟨hx, hb, hml, hown, hts, hfr, hlo, hin, hOn, hbs⟩ := id C
  unfold z1one at h
  dsimp only at h
  split at h
  · rename_i v i a r
    split at h
    · rename_i kd n f w kv nv fv wv hSa hSv
      split at h
      · rename_i hbn
        simp only [Bool.and_eq_true, Bool.or_eq_true] at hbn
        have hi : i < n := Nat.le_of_ble_eq_true hbn.1.1
        have hn : n ≤ 100000 := Nat.le_of_ble_eq_true hbn.1.2
        have hin := zNat_in hn hi
        have ha := z1ws_at E hSa
        have hv := z1ws_at E hSv
        have key : ∀ (t0 ci : Nat) (q : vw_C), 110 ≤ kd → kv = ci → ci < 100 → vwCl[ci]? = some q → (ztys E)[t0]? = some (zEc E kd, .object q.1) → W p l e R s m args below meth c H locs cells slots Qf (F0 m pc lj ((((2, Int.ofNat v) :: (0, Int.ofNat i) :: (2, Int.ofNat a) :: r) : List zV).map (zv E))) := by
          intro t0 ci q hkd hkv hci hq2 ht
          subst hkv
          have hela : ∀ w', z1el E (kd, n, f, w') = .inl (zEc E kd, n, .inr (.inr (.inr (.inr fun j => (z1r (kd, n, f, w') j).map (zEb E + ·))))) := fun w' => by
            unfold z1el
            rw [if_neg (show ¬ kd < 100 by omega), if_neg (show ¬ kd < 103 by omega), if_neg (show ¬ kd = 103 by omega)]
          have helv : z1el E (kv, nv, fv, wv) = .inr (kv, (List.range nv).map (z1fv E (kv, nv, fv, wv))) := by
            unfold z1el
            rw [if_pos hci]
          rw [hela] at ha
          rw [helv] at hv
          obtain ⟨r', hr', cellV, g1, g2, g3, -⟩ := hH.2 v _ hv
          have hcls := (hOn.1.1 kv q hq2).2
          obtain ⟨kA, comp, k1, k2, k3, -⟩ := (hOn.1.2 t0 _ ht).2
          have hcomp : comp = (zED E).1 kv := Option.some.inj (k3.symm.trans hcls.1)
          subst hcomp
          obtain ⟨kC, hkC, -⟩ := hcls.2
          have hlt : (Int32.ofInt (Int.ofNat i)).toNatClampNeg < n := by rw [zNat_cl (by omega)]; exact hi
          refine W.aast (g := F0 m pc lj (.ref (zEb E + v) :: .int (Int32.ofInt (Int.ofNat i)) :: .ref (zEb E + a) :: r.map (zv E))) hx hb (hH.2 a _ ha) (fun q h => by cases h) (fun h => by cases h) k1 k2 rfl hkC ⟨zNat_nn (by omega), by show _ < (arrV _ _ _).slots.size; rw [arrV_size]; exact hlt⟩ g1 (fun q h => by rw [g3] at h; cases h) (by rw [g2]; exact hkC) (by rw [g2]; exact va_assign hcls) rfl rfl hd (fun H1 e1 z oq => ?_)
          have hP : va_P (zED E) vwCl ((z1ws E S).set a (zEb E + a, z1el E (kd, n, f, (i, v) :: w))) H1 := by
            refine hH.2.set (z1ws_D E S) ha ?_ oq
            rw [hela]
            show H1[zEb E + a]? = some (vp_cell _ _)
            rw [e1, vp_cell_q, vp_cell_q, arrV_store, zNat_cl (by omega)]
            congr 2
            funext j
            rw [z1r_cons]
            unfold updV
            split <;> rfl
          exact hk _ _ _ _ h p l e R s m args below meth c H1 _ cells slots Qf E lj C hl1 hl2 (by rw [List.length_set]; exact hc) (by rw [z1s_set _ _ _ _ hSa (by rfl)]; exact hs) (z1H_set hH hSa z rfl hP) (hS.put z oq (Nat.le_add_right _ _)) hL hl0 hR
        rcases hbn.2 with (h1 | h1) | h1
        · have e1 := Nat.eq_of_beq_eq_true h1.1
          have e2 := Nat.eq_of_beq_eq_true h1.2
          exact key 4 9 _ (by omega) e2 (by decide) rfl (by rw [e1]; rfl)
        · have e1 := Nat.eq_of_beq_eq_true h1.1
          have e2 := Nat.eq_of_beq_eq_true h1.2
          exact key 5 2 _ (by omega) e2 (by decide) rfl (by rw [e1]; rfl)
        · have e1 := Nat.eq_of_beq_eq_true h1.1
          have e2 := Nat.eq_of_beq_eq_true h1.2
          exact key 6 4 _ (by omega) e2 (by decide) rfl (by rw [e1]; rfl)
      · cases h
    · cases h
  · cases h
/-- a field is written: final or not -/
theorem z1_putv {p : Program} {l : Launch} {e : Env} {R : Room} {s : State} {m : MethodId} {args : Array Value} {below : List Frame} {meth : Method} {c : Code} {H : Heap} {locs : List Loc} {cells slots : Nat} {Qf : State → Prop} {E : zEnv} {lj : Array Slot} {own : String} {idx ci sl h : Nat} {c0 c1 : z1c} {v : Value} {rest : List Value} {cc : ByteArray} (hx : p.tables.exec = Jvm.exec) (hb : c.code = cc) (hown : s.vm.findClass own = some m.cls) (hts : ∀ w ∈ zgood, w.before args s = true) (hin : meth.name = "<init>") (hK : va_K (zED E) vwCl (ztys E) s)
    (hH : z1H E S H) (hS : va_S (z1A E) s.heap H locs) (hd : decode cc pc = .ok (.putfield idx, 3)) {q : vw_C} (hq : vwCl[ci]? = some q) (hci : ci < 100) (hsl : sl < q.2.2) {ty : Nat → FieldType} (hcf : zCF ci q ty) (hlink : Cond.fieldLink own idx (q.2.1 sl).1 (q.2.1 sl).2.1 (q.2.1 sl).2.2.1 ∈ zgood)
    (hn : narrow (ty sl) v = v) (hfit : fits (ty sl) v = true) (hfin : (q.2.1 sl).2.2.2 = true → (q.2.1 sl).1 = own) (hSh : S[h]? = some c0) (h0 : c0.1 = ci ∧ c0.2.1 = q.2.2) (h1 : c1.1 = ci ∧ c1.2.1 = q.2.2) (hv : ∀ j, j < q.2.2 → (if j = sl then v else z1fv E c0 j) = z1fv E c1 j)
    (kk : ∀ (H1 : Heap) (locs1 : List Loc), z1H E (S.set h c1) H1 → va_S (z1A E) s.heap H1 locs1 → W p l e R s m args below meth c H1 locs1 cells slots Qf (F0 m (pc + 3) lj rest)) : W p l e R s m args below meth c H locs cells slots Qf (F0 m pc lj (v :: .ref (zEb E + h) :: rest)) := by
  obtain ⟨C1, T1, N1⟩ := q
  dsimp only at hsl hlink hfin h0 h1 hv hcf
  have hel : ∀ c2 : z1c, c2.1 = ci → c2.2.1 = N1 → z1el E c2 = .inr (ci, (List.range N1).map (z1fv E c2)) := fun c2 g1 g2 => by
    unfold z1el
    rw [g1, g2, if_pos hci]
  have he := z1ws_at E hSh
  rw [hel c0 h0.1 h0.2] at he
  have hap := va_apart (own := own) hts hcf.1 ty hcf.2.1 hcf.2.2.1 hK hq
  obtain ⟨r, hr1, cell, q1, q2, q3, q4⟩ := hH.2 h _ he
  have hr : r = (C1, T1, N1) := Option.some.inj (hr1.symm.trans hq)
  subst hr
  obtain ⟨hSl, hfc, kC, hkC, hkind⟩ := hK.1 ci _ hq
  obtain ⟨cf, kf, fi, f, hi, hslot⟩ := hSl sl hsl
  have hst := (u_facts hfc hkC (u_lays hts hcf.1 hsl) hi).1
  have hlay := hts _ (hcf.1 _ (u_in_lay hsl))
  unfold u_lay at hlay
  have fin : ∀ H' : Heap, H'[zEb E + h]? = some (cell.setSlot f.slot v) → H'.size = H.size → (∀ q, q ≠ zEb E + h → H'[q]? = H[q]?) → W p l e R s m args below meth c H' (locs ++ [⟨zEb E + h, f.slot⟩]) cells slots Qf (F0 m (pc + 3) lj rest) := by
    intro H' e1 e2 e3
    rw [hslot] at e1
    refine kk H' _ (z1H_set hH hSh e2 (hel c1 h1.1 h1.2).symm ?_) (hS.put e2 e3 (Nat.le_add_right _ _))
    refine hH.2.set (z1ws_D E S) (z1ws_at E hSh) ⟨_, hq, t_OB.to (V := updV (vp_V ((List.range N1).map (z1fv E c0))) sl v) ⟨_, e1, q2, q3, t_set q4 hap hsl v⟩ (fun j hj => ?_)⟩ e3
    rw [show vp_V ((List.range N1).map (z1fv E c1)) j = z1fv E c1 j by unfold vp_V; rw [List.getD_eq_getElem?_getD, List.getElem?_map, List.getElem?_range hj]; rfl, ← hv j hj]
    unfold updV
    split
    · rfl
    · unfold vp_V
      rw [List.getD_eq_getElem?_getD, List.getElem?_map, List.getElem?_range hj]
      rfl
  by_cases hf : (T1 sl).2.2.2 = true
  · rw [if_pos hf] at hlay
    have hcf2 : m.cls = cf := by
      obtain ⟨_, _, c', _, _, _, -, -, hf', -, -, -, hown2, -⟩ := Cond.laysFinal_spec hlay
      have e1 : c' = cf := by have := hi.symm.trans hf'; simp at this; exact this.1.symm
      rw [hfin hf] at hown2
      rw [← e1]; exact Option.some.inj (hown.symm.trans hown2)
    have h6 := u_fits hfc hkC hkind (Or.inr hlay) hi (hcf.2.1 sl hsl) hn hfit
    exact W.putFinK hx hb hown (hts _ hlink) hi hst hcf2 hin (by rw [q2]; exact h6) q1 q3 (by rw [hslot]; exact k2_hasslot (q4 sl hsl)) rfl rfl hd fin
  · rw [if_neg hf] at hlay
    have h6 := u_store hfc hkC hkind hlay hi (hcf.2.1 sl hsl) hn hfit
    exact W.putK hx hb (f := f) ⟨hown, hts _ hlink, ⟨_, _, _, hi⟩, hst⟩ (by rw [q2]; exact h6) q1 q3 (by rw [hslot]; exact k2_hasslot (q4 sl hsl)) rfl rfl hd fin
end
