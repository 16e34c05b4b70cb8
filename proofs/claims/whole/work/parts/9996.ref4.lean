section
/-! palace: the reference's line. -/
variable {d : Nat} {mem m m' m2 : zMem} {Q : Int → zMem → Prop} {b : Nat → Int} {L i j : Nat} {st st' : zPD} {g : zPg} {ws h v : Int}
theorem sgnF_c {c : Int} {p : Nat} (h : sgnF b L i = .inl (c, p)) : 0 < c := by
  unfold sgnF at h
  split at h
  · injection h with h; injection h with h1 h2; omega
  · split at h
    · injection h with h; injection h with h1 h2; omega
    · exact absurd h (by simp)
theorem c_Mo_readLine (hB : rB mem b L) (hi : i ≤ L) (ht : rTk mem b L i) (k0 : tkK b L i ≠ 0) (hW : pdW st) (hd : rD mem st) (hQe : ∀ c p, lnF b L i st = .inl (c, p) → 0 < c → ∀ m' : zMem, rBr m' c p → vFr mem m' → Q 0 m') (hQk : ∀ j st', lnF b L i st = .inr (j, st') → j ≤ L → pdW st' → ∀ m' : zMem, rTk m' b L j → rD m' st' → vFr mem m' → Q 0 m') : zC (d + 6) K_Mo_readLine [(2, Int.ofNat 122)] mem Q := by
  obtain ⟨t15, tk, tv, t0⟩ := id ht
  obtain ⟨u12, u16, u14⟩ := tk k0
  obtain ⟨d1, d2, d3, d4, d5, d6, d7, d8⟩ := id hd
  have hle := tk_le (b := b) hi
  have tailE : ∀ X, lnF b L i st = sgP b L X → ∀ c p, X = .inl (c, p) → 0 < c → ∀ m' : zMem, rBr m' c p → vFr mem m' → zG (d + 6) M_Mo_readLine 132 [(2, Int.ofNat 122), (9, 0)] [] m' Q := by
    intro X hX c p hx hc m' hb hf
    refine v_Mo_readLine_132 ⟨fun _ => c_Mo_stepB (d := d + 4) (by rw [hb.1]; exact hc) (hQe c p (by rw [hX, hx]; rfl) hc m' hb hf), fun z => ?_⟩
    rw [hb.1] at z; omega
  have tailK : ∀ X, lnF b L i st = sgP b L X → ∀ j st', X = .inr (j, st') → j ≤ L → pdW st' → ∀ m' : zMem, rTk m' b L j → rD m' st' → vFr mem m' → zG (d + 6) M_Mo_readLine 132 [(2, Int.ofNat 122), (9, 0)] [] m' Q := by
    intro X hX j st' hx hj hW' m' ht' hd' hf
    have hX : lnF b L i st = bnd (sgnF b L j) (fun j => .inr (j, st')) := by rw [hX, hx]; rfl
    obtain ⟨w15, wk, wv, w0⟩ := id ht'
    by_cases c0 : tkK b L j = 0
    · obtain ⟨y1, y2⟩ := w0 c0
      have hs : sgnF b L j = .inl (1, tkS b L j) := by unfold sgnF; rw [if_pos c0]
      exact v_Mo_readLine_132 ⟨fun _ => c_Mo_stepB (d := d + 4) (by rw [y1]; decide) (hQe 1 _ (by rw [hX, hs]; rfl) (by decide) m' ⟨y1, y2⟩ hf), fun z => by omega⟩
    · obtain ⟨y12, y16, y14⟩ := wk c0
      refine v_Mo_readLine_132 ⟨fun z => absurd y12 z, fun _ => ⟨fun z => ?_, fun z => ?_⟩⟩
      · have c4 : tkK b L j = 4 := by omega
        have hs : sgnF b L j = .inr (tkE b L j) := by unfold sgnF; rw [if_neg c0, if_neg (fun q => q c4)]
        have hlj := tk_le (b := b) hj
        exact c_Mo_step (d := d + 3) (hB.vf hf) (i := tkE b L j) hlj.2.2.1 y14 y12 (fun m2 ht2 hf2 => hQk (tkE b L j) st' (by rw [hX, hs]; rfl) hlj.2.2.1 hW' m2 ht2 (hd'.fr hf2) (hf.trans hf2.vf))
      · have c4 : tkK b L j ≠ 4 := fun q => z (by rw [y16, q]; rfl)
        have hs : sgnF b L j = .inl (2, tkS b L j) := by unfold sgnF; rw [if_neg c0, if_pos c4]
        refine c_Mo_fails (d := d + 4) (fun m2 q1 q2 q3 q4 => ?_)
        have hb : rBr m2 2 (tkS b L j) := ⟨(q2 y12).1, by rw [(q2 y12).2, w15]⟩
        exact c_Mo_stepB (d := d + 4) (by rw [hb.1]; decide) (hQe 2 _ (by rw [hX, hs]; rfl) (by decide) m2 hb (hf.trans (rFr.vf ⟨q3, fun x hx => q4 x (by omega) (by omega)⟩)))
  have bad : lnF b L i st = .inl (2, tkS b L i) → zC (d + 5) K_Mo_fails [(2, Int.ofNat 122), (0, 2)] mem (fun r22 m24 => Q 0 m24) := by
    intro hl
    exact c_Mo_fails (d := d + 4) (fun m2 q1 q2 q3 q4 => hQe 2 _ hl (by decide) m2 ⟨(q2 u12).1, by rw [(q2 u12).2, t15]⟩ (rFr.vf ⟨q3, fun x hx => q4 x (by omega) (by omega)⟩))
  refine v_Mo_readLine (c_Mo_nameHere (d := d + 3) hB ⟨hle.2.1, hle.2.2.1⟩ t15 (fun _ => u14) (fun z r hr => ?_) (fun z => ?_))
  · have c2 : tkK b L i = 2 := by omega
    have base : lnF b L i st = @ite _ (wd b (tkS b L i) (tkE b L i) 0) (Classical.propDecidable _) (roomsF b L i st) (@ite _ (wd b (tkS b L i) (tkE b L i) 1) (Classical.propDecidable _) (lawF b L i st) (@ite _ (wd b (tkS b L i) (tkE b L i) 2) (Classical.propDecidable _) (doorF b L i st) (@ite _ (wd b (tkS b L i) (tkE b L i) 3) (Classical.propDecidable _) (oneF b L i st) (@ite _ (wd b (tkS b L i) (tkE b L i) 4) (Classical.propDecidable _) (wallF b L i st) (.inl (2, tkS b L i)))))) := by
      unfold lnF
      rw [if_neg k0, if_neg (fun y => y c2)]
    have no : ∀ k : Nat, k < 8 → ¬ r = (k : Int) → ¬ wd b (tkS b L i) (tkE b L i) k := fun k hk q w => q (nmW_k hk w hr)
    have yes : ∀ k : Nat, k < 8 → r = (k : Int) → wd b (tkS b L i) (tkE b L i) k := fun k hk q => by
      rcases hr with ⟨x, x1, x2, x3, -⟩ | ⟨x, -⟩
      · rw [show k = x by omega]; exact x3
      · omega
    refine c_Mo_in (d := d + 4) (fun cin => ⟨fun _ => ⟨fun n2 => ⟨fun n3 => ⟨fun n4 => ⟨fun n0 => ?_, fun y0 => ?_⟩, fun y4 => ?_⟩, fun y3 => ?_⟩, fun y2 => ?_⟩, fun q => absurd q (by decide)⟩) (fun cin => ⟨fun q => absurd rfl q, fun _ => bad ?_⟩)
    · have y1 : r = 1 := by omega
      have hl : lnF b L i st = sgP b L (lawP b L i st) := by rw [base, if_neg (no 0 (by omega) (by omega)), if_pos (yes 1 (by omega) (by omega)), lawP_F]
      rw [d5]
      refine ⟨fun c m3 e3 => ?_, fun c => c_Mo_fails (d := d + 4) (fun m7 q1 q2 q3 q4 m8 e8 => ?_)⟩
      · have hp : lawP b L i st = bnd (numF b L (tkE b L i) 0 3) (fun v => .inr (v.2, (gLw st.1 v.1, st.2.1, st.2.2.1, 1, st.2.2.2.2))) := by unfold lawP; rw [if_neg (fun q => q c)]
        have f3 : vFr mem m3 := vFr.refl.up e3 (by omega)
        refine c_Mo_step (d := d + 3) (hB.vf f3) (i := tkE b L i) hle.2.2.1 (by rw [e3, zup_j (by omega), u14]) (by rw [e3, zup_j (by omega), u12]) (fun m4 ht4 hf4 => ?_)
        have f4 := f3.trans hf4.vf
        refine c_Mo_number (d := d + 2) (hB.vf f4) hle.2.2.1 ht4 (fun c p hn m5 hb5 hf5 m6 e6 => ?_) (fun v j hn m5 ht5 hf5 m6 e6 => ?_)
        · have hc : 0 < c := by have := (numF_l hn).1; omega
          exact tailE _ hl c p (by rw [hp, hn]; rfl) hc m6 (hb5.fr (fun x hx => by rw [e6, zup_k (by omega)])) ((f4.trans hf5.vf).pg e6)
        · have hv := numF_r hn
          have k122 : ∀ x, x < 12 → x ≠ 5 → m6 122 x = mem 122 x := fun x x1 x2 => by rw [e6, zup_k (by omega), hf5.2 x (by omega), hf4.2 x (by omega), e3, zup_j x2]
          have hP5 := hW.2.2.1
          have hN14 := hW.1.1
          refine tailK _ hl j _ (by rw [hp, hn]; rfl) (by rw [hv.2.2.2]; exact (tk_le hle.2.2.1).2.2.1) (hW.law hv.2.1) m6 (ht5.fr (fun x _ _ => by rw [e6, zup_k (by omega)])) ⟨fun x hx => ?_, fun k k1 k2 => ?_, ?_, ?_, ?_, ?_, ?_, ?_⟩ ((f4.trans hf5.vf).pg e6)
          · show m6 124 x = gLw st.1 v x
            unfold gLw
            by_cases e : x = 73
            · rw [if_pos e, e6, e, zup_e]
            · rw [if_neg e, e6, zup_j e, hf5.1 124 (by omega), hf4.1 124 (by omega), e3, zup_k (by omega), d1 x hx]
          · have k1 : gN (gLw st.1 v) ≤ (k : Int) := k1
            have e1 : gN (gLw st.1 v) = gN st.1 := gLw_at _ _ (by omega)
            have e2 : gC (gLw st.1 v) k = gC st.1 k := gLw_at _ _ (by omega)
            have e3 : gX (gLw st.1 v) k = gX st.1 k := gLw_at _ _ (by omega)
            show gC (gLw st.1 v) k = 0 ∧ gX (gLw st.1 v) k = 0
            rw [e2, e3]
            exact d2 k (by omega) k2
          · rw [k122 3 (by omega) (by omega)]; exact d3
          · rw [k122 4 (by omega) (by omega)]; exact d4
          · rw [e6, zup_k (by omega), hf5.2 5 (by omega), hf4.2 5 (by omega), e3, zup_e]
          · rw [k122 6 (by omega) (by omega)]; exact d6
          · rw [k122 7 (by omega) (by omega)]; exact hiR_law (by omega) (by omega) d7
          · rw [k122 8 (by omega) (by omega)]; exact d8
      · have hp : lawP b L i st = .inl (4, tkS b L i) := by unfold lawP; rw [if_pos c]
        have hb : rBr m7 4 (tkS b L i) := ⟨(q2 u12).1, by rw [(q2 u12).2, t15]⟩
        have hb8 : rBr m8 4 (tkS b L i) := hb.fr (fun x hx => by rw [e8, zup_j (by omega)])
        have f8 : vFr mem m8 := (rFr.vf ⟨q3, fun x hx => q4 x (by omega) (by omega)⟩).up e8 (by omega)
        have h12 : 0 < m8 122 12 := by rw [hb8.1]; decide
        exact c_Mo_stepB (d := d + 4) h12 (c_Mo_numberB (d := d + 3) h12 (fun m11 e11 => tailE _ hl 4 _ hp (by decide) m11 (hb8.fr (fun x hx => by rw [e11, zup_k (by omega)])) (f8.pg e11)))
    · have hl : lnF b L i st = sgP b L (roomsP b L i st) := by rw [base, if_pos (yes 0 (by omega) (by omega)), roomsP_F]
      rw [d4]
      refine ⟨fun c m3 e3 => ?_, fun c => c_Mo_fails (d := d + 4) (fun m7 q1 q2 q3 q4 m8 e8 => ?_)⟩
      · have hp : roomsP b L i st = bnd (numF b L (tkE b L i) 2 10) (fun v => .inr (v.2, (st.1, v.1, 1, st.2.2.2.1, st.2.2.2.2))) := by unfold roomsP; rw [if_neg (fun q => q c)]
        have f3 : vFr mem m3 := vFr.refl.up e3 (by omega)
        refine c_Mo_step (d := d + 3) (hB.vf f3) (i := tkE b L i) hle.2.2.1 (by rw [e3, zup_j (by omega), u14]) (by rw [e3, zup_j (by omega), u12]) (fun m4 ht4 hf4 => ?_)
        have f4 := f3.trans hf4.vf
        refine c_Mo_number (d := d + 2) (hB.vf f4) hle.2.2.1 ht4 (fun c p hn m5 hb5 hf5 m6 e6 => ?_) (fun v j hn m5 ht5 hf5 m6 e6 => ?_)
        · have hc : 0 < c := by have := (numF_l hn).1; omega
          exact tailE _ hl c p (by rw [hp, hn]; rfl) hc m6 (hb5.fr (fun x hx => by rw [e6, zup_j (by omega)])) ((f4.trans hf5.vf).up e6 (by omega))
        · have hv := numF_r hn
          have k122 : ∀ x, x < 12 → x ≠ 4 → x ≠ 3 → m6 122 x = mem 122 x := fun x x1 x2 x3 => by rw [e6, zup_j x3, hf5.2 x (by omega), hf4.2 x (by omega), e3, zup_j x2]
          refine tailK _ hl j (st.1, v, 1, st.2.2.2.1, st.2.2.2.2) (by rw [hp, hn]; rfl) (by rw [hv.2.2.2]; exact (tk_le hle.2.2.1).2.2.1) ?_ m6 (ht5.fr (fun x x1 x2 => by rw [e6, zup_j (by omega)])) ⟨fun x hx => ?_, d2, ?_, ?_, ?_, ?_, ?_, ?_⟩ ((f4.trans hf5.vf).up e6 (by omega))
          · obtain ⟨x1, x2, x3, x4, x5, x6, x7, x8, x9⟩ := hW
            exact ⟨x1, hv.2.1, x3, x4, x5, x6, Or.inr rfl, x8, x9⟩
          · rw [e6, zup_k (by omega), hf5.1 124 (by omega), hf4.1 124 (by omega), e3, zup_k (by omega)]; exact d1 x hx
          · rw [e6, zup_e]
          · rw [e6, zup_j (by omega), hf5.2 4 (by omega), hf4.2 4 (by omega), e3, zup_e]
          · rw [k122 5 (by omega) (by omega) (by omega)]; exact d5
          · rw [k122 6 (by omega) (by omega) (by omega)]; exact d6
          · rw [k122 7 (by omega) (by omega) (by omega)]; exact d7
          · rw [k122 8 (by omega) (by omega) (by omega)]; exact d8
      · have hp : roomsP b L i st = .inl (4, tkS b L i) := by unfold roomsP; rw [if_pos c]
        have hb : rBr m7 4 (tkS b L i) := ⟨(q2 u12).1, by rw [(q2 u12).2, t15]⟩
        have hb8 : rBr m8 4 (tkS b L i) := hb.fr (fun x hx => by rw [e8, zup_j (by omega)])
        have f8 : vFr mem m8 := (rFr.vf ⟨q3, fun x hx => q4 x (by omega) (by omega)⟩).up e8 (by omega)
        have h12 : 0 < m8 122 12 := by rw [hb8.1]; decide
        exact c_Mo_stepB (d := d + 4) h12 (c_Mo_numberB (d := d + 3) h12 (fun m11 e11 => tailE _ hl 4 _ hp (by decide) m11 (hb8.fr (fun x hx => by rw [e11, zup_j (by omega)])) (f8.up e11 (by omega))))
    · have hl : lnF b L i st = sgP b L (wallP b L i st) := by rw [base, if_neg (no 0 (by omega) (by omega)), if_neg (no 1 (by omega) (by omega)), if_neg (no 2 (by omega) (by omega)), if_neg (no 3 (by omega) (by omega)), if_pos (yes 4 (by omega) (by omega)), wallP_F]
      exact c_Mo_readWalled (d := d) hB hi ht c2 hW hd (tailE _ hl) (tailK _ hl)
    · have hl : lnF b L i st = sgP b L (oneP b L i st) := by rw [base, if_neg (no 0 (by omega) (by omega)), if_neg (no 1 (by omega) (by omega)), if_neg (no 2 (by omega) (by omega)), if_pos (yes 3 (by omega) (by omega)), oneP_F]
      exact c_Mo_readOne (d := d) hB hi ht c2 hW hd (tailE _ hl) (tailK _ hl)
    · have hl : lnF b L i st = sgP b L (doorP b L i st) := by rw [base, if_neg (no 0 (by omega) (by omega)), if_neg (no 1 (by omega) (by omega)), if_pos (yes 2 (by omega) (by omega)), doorP_F]
      exact c_Mo_readDoor (d := d) hB hi ht c2 hW hd (tailE _ hl) (tailK _ hl)
    · rw [base, if_neg (no 0 (by omega) (by omega)), if_neg (no 1 (by omega) (by omega)), if_neg (no 2 (by omega) (by omega)), if_neg (no 3 (by omega) (by omega)), if_neg (no 4 (by omega) (by omega))]
  · have c2 : tkK b L i ≠ 2 := fun q => z (by rw [u16, q]; rfl)
    exact c_Mo_in (d := d + 4) (fun q => by omega) (fun _ => ⟨fun q => absurd rfl q, fun _ => bad (by unfold lnF; rw [if_neg k0, if_pos c2])⟩)
end
