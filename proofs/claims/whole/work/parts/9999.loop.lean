section
/-! The law's loop: every call agrees. -/
variable {d : Nat} {mem m' : zMem} {Q : Int → zMem → Prop} {R S : zMem → Prop}
theorem Inv.pl (hI : Inv mem) (hp : Ipal m') (hk : ∀ k, k ≠ 123 → (k < 1 ∨ 14 < k) → m' k = mem k) (hg : ∀ i, 88 ≤ i → m' 123 i = mem 123 i) : Inv m' :=
  hI.fr hp (hk 0 (by omega) (by omega)) (fun j _ => by rw [hk 122 (by omega) (by omega)]) hg (fun k k1 k2 => hk k (by omega) (by omega)) (fun k k1 k2 => hk k (by omega) (by omega)) (fun k k1 k2 => hk k (by omega) (by omega))
theorem T_stand {a b : Int} (hI : Inv mem) (hR : ∀ m', Inv m' → R m') : zC (d + 3) K_Od_stand [(2, Int.ofNat 0), (0, a), (0, b)] mem (fun r1 m1 => zC (d + 3) K_Mo_stand [(2, Int.ofNat 122), (0, a), (0, b)] m1 (fun r2 m2 => (r1 = r2 → R m2) ∧ (r1 ≠ r2 → S m2))) :=
  t_stand hI.1 (fun m' hp h1 h2 => hR m' (hI.pl hp (fun k k1 k2 => h1 k k1 (by omega)) (fun i hi => h2 i (by omega))))
theorem T_go {a b : Int} (hI : Inv mem) (hR : ∀ m', Inv m' → R m') : zC (d + 4) K_Od_go [(2, Int.ofNat 0), (0, a), (0, b)] mem (fun r1 m1 => zC (d + 4) K_Mo_go [(2, Int.ofNat 122), (0, a), (0, b)] m1 (fun r2 m2 => (r1 = r2 → R m2) ∧ (r1 ≠ r2 → S m2))) :=
  t_go hI.1 (fun m' hp h1 h2 => hR m' (hI.pl hp (fun k k1 k2 => h1 k k1 (by omega)) (fun i hi => h2 i (by omega))))
theorem T_rule {a : Int} (hI : Inv mem) (hR : ∀ m', Inv m' → R m') : zC (d + 2) K_Od_rule [(2, Int.ofNat 0), (0, a)] mem (fun r1 m1 => zC (d + 2) K_Mo_rule [(2, Int.ofNat 122), (0, a)] m1 (fun r2 m2 => (r1 = r2 → R m2) ∧ (r1 ≠ r2 → S m2))) :=
  t_rule hI.1 (hR mem hI)
theorem T_doors {a : Int} (hI : Inv mem) (hR : ∀ m', Inv m' → R m') : zC (d + 3) K_Od_doors [(2, Int.ofNat 0), (0, a)] mem (fun r1 m1 => zC (d + 3) K_Mo_doors [(2, Int.ofNat 122), (0, a)] m1 (fun r2 m2 => (r1 = r2 → R m2) ∧ (r1 ≠ r2 → S m2))) :=
  t_doors hI.1 (hR mem hI)
theorem T_one {a b : Int} (hI : Inv mem) (hR : ∀ m', Inv m' → R m') : zC (d + 4) K_Od_one [(2, Int.ofNat 0), (0, a), (0, b)] mem (fun r1 m1 => zC (d + 4) K_Mo_one [(2, Int.ofNat 122), (0, a), (0, b)] m1 (fun r2 m2 => (r1 = r2 → R m2) ∧ (r1 ≠ r2 → S m2))) :=
  t_one hI.1 (hR mem hI)
theorem T_door {a b : Int} (hI : Inv mem) (hR : ∀ m', Inv m' → R m') : zC (d + 3) K_Od_door [(2, Int.ofNat 0), (0, a), (0, b)] mem (fun r1 m1 => zC (d + 3) K_Mo_door [(2, Int.ofNat 122), (0, a), (0, b)] m1 (fun r2 m2 => (r1 = r2 → R m2) ∧ (r1 ≠ r2 → S m2))) :=
  t_door hI.1 (hR mem hI)
theorem T_forget (hI : Inv mem) (hR : ∀ m', Inv m' → R m') : zC (d + 1) K_Od_forget [(2, Int.ofNat 0)] mem (fun r1 m1 => zC (d + 1) K_Mo_forget [(2, Int.ofNat 122)] m1 (fun r2 m2 => (r1 = r2 → R m2) ∧ (r1 ≠ r2 → S m2))) :=
  t_forget hI.1 (fun m' hp h1 h2 _ => hR m' (hI.pl hp (fun k k1 k2 => h1 k k1 (by omega)) (fun i hi => h2 i (by omega))))
theorem T_law {a : Int} (hI : Inv mem) (hR : ∀ m', Inv m' → R m') : zC (d + 2) K_Od_law [(2, Int.ofNat 0), (0, a)] mem (fun r1 m1 => zC (d + 2) K_Mo_law [(2, Int.ofNat 122), (0, a)] m1 (fun r2 m2 => (r1 = r2 → R m2) ∧ (r1 ≠ r2 → S m2))) :=
  t_law hI.1 (fun m' hp h1 h2 => hR m' (hI.pl hp (fun k k1 k2 => h1 k k1 (by omega)) (fun i hi => h2 i (by omega))))
theorem T_tell {a : Int} (hI : Inv mem) (hR : ∀ m', Inv m' → R m') : zC (d + 3) K_Od_tell [(2, Int.ofNat 0), (0, a)] mem (fun r1 m1 => zC (d + 3) K_Mo_tell [(2, Int.ofNat 122), (0, a)] m1 (fun r2 m2 => (r1 = r2 → R m2) ∧ (r1 ≠ r2 → S m2))) :=
  t_tell hI.1 (fun m' hp h1 h2 _ => hR m' (hI.pl hp (fun k k1 k2 => h1 k k1 (by omega) (by omega)) (fun i hi => h2 i (by omega))))
theorem T_wall {a v : Int} (hv : v = 0 ∨ v = 1) (hI : Inv mem) (hR : ∀ m', Inv m' → R m') : zC (d + 3) K_Od_wall [(2, Int.ofNat 0), (0, a), (0, v)] mem (fun r1 m1 => zC (d + 3) K_Mo_wall [(2, Int.ofNat 122), (0, a), (0, v)] m1 (fun r2 m2 => (r1 = r2 → R m2) ∧ (r1 ≠ r2 → S m2))) :=
  t_wall hv hI.1 (fun m' hp h1 h2 => hR m' (hI.pl hp (fun k k1 k2 => h1 k k1 (by omega)) (fun i hi => h2 i (by omega))))
theorem T_build {a b c : Int} (hI : Inv mem) (hR : ∀ m', Inv m' → R m') : zC (d + 3) K_Od_build [(2, Int.ofNat 0), (0, a), (0, b), (0, c)] mem (fun r1 m1 => zC (d + 3) K_Mo_build [(2, Int.ofNat 122), (0, a), (0, b), (0, c)] m1 (fun r2 m2 => (r1 = r2 → R m2) ∧ (r1 ≠ r2 → S m2))) :=
  t_build hI.1 (fun m' hp h1 h2 => hR m' (hI.pl hp (fun k k1 k2 => h1 k k1 (by omega)) (fun i hi => h2 i (by omega))))
theorem Inv0 : Inv zm0 := by
  have zl : ∀ k j, zIL.getD k [] = [] → zm0 k j = 0 := fun k j h => by unfold zm0; rw [h]; rfl
  have e123 : zm0 123 = fun _ => 0 := funext fun j => zl 123 j (by decide +kernel)
  have hw : ∀ g : zPg, g = (fun _ => 0) → gWf g 4 := by
    intro g hg
    subst hg
    refine ⟨⟨⟨Int.le_refl _, by show (0 : Int) ≤ 14; omega⟩, ⟨Int.le_refl _, by show (0 : Int) ≤ 3; omega⟩, fun k hk => ?_⟩, by omega, fun k hk => ?_, ⟨Int.le_refl _, by show (0 : Int) ≤ 5; omega⟩, fun k hk => ?_, ⟨Int.le_refl _, by show (0 : Int) ≤ 12; omega⟩, fun k hk => ?_⟩
    all_goals
      have hk : (k : Int) < 0 := hk
      omega
  have h122 : zm0 122 1 = 4 := by decide +kernel
  refine ⟨?_, ?_, ?_, ?_⟩
  · unfold Ipal
    rw [e123, h122]
    refine ⟨hw _ rfl, ⟨by decide +kernel, by decide +kernel, by decide +kernel, fun k hk => ?_, fun k hk => ?_, fun r hr k hk => ?_, fun c hc k hk => ?_⟩, by decide +kernel, fun k hk => ?_, by decide +kernel, fun k hk => ?_⟩
    · rw [show zm0 (1 + 1) 3 = 0 by decide +kernel]
      exact ⟨fun q => absurd q (zB_0 k), fun q => by have : (k : Int) < 0 := q.1; omega⟩
    · have hk : (k : Int) < 0 := hk
      omega
    · rw [zl (1 + 1 + 4) r (by decide +kernel)]
      exact ⟨fun q => absurd q (zB_0 k), fun q => by have : (k : Int) < 0 := q.1; omega⟩
    · rw [zl (1 + 1 + 5) c (by decide +kernel)]
      exact ⟨fun q => absurd q (zB_0 k), fun q => by have : (k : Int) < 0 := q.1; omega⟩
    · have hk : (k : Int) < 0 := hk
      omega
    · have hk : (k : Int) < 0 := hk
      omega
  · refine ⟨by decide +kernel, fun k hk => ?_⟩
    rw [show zm0 0 11 = 0 by decide +kernel, zl 142 k (by decide +kernel)]
    exact ⟨Or.inl rfl, ⟨fun q => absurd q (zB_0 k), fun q => absurd q (by decide)⟩, fun q => absurd q (by decide)⟩
  · refine ⟨by decide +kernel, fun k hk => ?_⟩
    have h1 : ∀ k, k < 4 → (zm0 (45 + 2 * k) 1 = -1 ∧ zm0 143 k = -4) ∧ zm0 (45 + 2 * k) 2 = zm0 144 k ∧ (0 ≤ zm0 144 k ∧ zm0 144 k ≤ 40) := by decide +kernel
    have h2 : ∀ k, k < 4 → zIL.getD (46 + 2 * k) [] = [] := by decide +kernel
    obtain ⟨x1, x2, x3⟩ := h1 k hk
    refine ⟨Or.inl x1, x2, x3, fun i hi => ?_⟩
    rw [zl (46 + 2 * k) i (h2 k hk), zl 145 (40 * k + i) (by decide +kernel)]
  · refine ⟨by decide +kernel, by decide +kernel, by decide +kernel, fun i hi => ?_, fun i _ => rfl, fun i _ => rfl⟩
    rw [show zm0 53 2 = 0 by decide +kernel] at hi
    omega
theorem law_loop {L : Nat} {xs : Nat → Int} (hL : L ≤ 3072) : ∀ (n k : Nat) (mem : zMem), L ≤ k + n → Inv mem → zG (20 + 1) (M_Law_law L xs) 18 [(5, 0), (2, Int.ofNat 0), (2, Int.ofNat 122), (0, (k : Int))] [] mem (fun x _ => x = 1) := by
  intro n
  induction n with
  | zero =>
    intro k mem hk hI
    exact v_Law_law_18 ⟨fun _ => rfl, fun c => by rw [zs (by omega)] at c; omega⟩
  | succ n ih =>
    intro k mem hk hI
    refine v_Law_law_18 ⟨fun _ => rfl, fun c => ?_⟩
    rw [zs (by omega)] at c
    have b1 : 0 ≤ zadd (k : Int) 1 ∧ zadd (k : Int) 1 < L := by rw [za (by omega)]; omega
    have b2 : 0 ≤ zadd (k : Int) 2 ∧ zadd (k : Int) 2 < L := by rw [za (by omega)]; omega
    have b3 : 0 ≤ zadd (k : Int) 3 ∧ zadd (k : Int) 3 < L := by rw [za (by omega)]; omega
    have b4 : 0 ≤ zadd (k : Int) 4 ∧ zadd (k : Int) 4 < L := by rw [za (by omega)]; omega
    have b5 : 0 ≤ zadd (k : Int) 5 ∧ zadd (k : Int) 5 < L := by rw [za (by omega)]; omega
    have nx : ∀ m', Inv m' → zG (20 + 1) (M_Law_law L xs) 1384 [(5, 0), (2, Int.ofNat 0), (2, Int.ofNat 122), (0, (k : Int))] [] m' (fun x _ => x = 1) := by
      intro m' hI'
      refine v_Law_law_1384 (fun x1 e1 => ?_)
      rw [za (by omega), show (k : Int) + 6 = ((k + 6 : Nat) : Int) by omega] at e1
      rw [e1]
      exact ih (k + 6) m' (by omega) hI'
    refine ⟨by omega, ?_⟩
    refine ⟨fun _ => v_Law_law_208 ⟨b1, b2, zC.post (T_feed (d := 18) hI nx) (fun r1 m1 h => ⟨b1, b2, h⟩)⟩, ?_⟩
    refine ⟨fun _ => v_Law_law_261 ⟨b1, zC.post (T_end (d := 18) hI nx) (fun r1 m1 h => ⟨b1, h⟩)⟩, ?_⟩
    refine ⟨fun _ => v_Law_law_284 (T_palace (d := 11) hI nx), ?_⟩
    refine ⟨fun _ => v_Law_law_297 (T_fault (d := 19) hI nx), ?_⟩
    refine ⟨fun _ => v_Law_law_310 ⟨b1, zC.post (T_rule (d := 18) hI nx) (fun r1 m1 h => ⟨b1, h⟩)⟩, ?_⟩
    refine ⟨fun _ => v_Law_law_333 ⟨b1, b2, zC.post (T_door (d := 17) hI nx) (fun r1 m1 h => ⟨b1, b2, h⟩)⟩, ?_⟩
    refine ⟨fun _ => v_Law_law_366 ⟨b1, b2, zC.post (T_one (d := 16) hI nx) (fun r1 m1 h => ⟨b1, b2, h⟩)⟩, ?_⟩
    refine ⟨fun _ => v_Law_law_399 ⟨b1, zC.post (T_doors (d := 17) hI nx) (fun r1 m1 h => ⟨b1, h⟩)⟩, ?_⟩
    refine ⟨fun _ => v_Law_law_422 ⟨b1, zC.post (T_law (d := 18) hI nx) (fun r1 m1 h => ⟨b1, h⟩)⟩, ?_⟩
    refine ⟨fun _ => v_Law_law_445 ⟨b1, b2, b3, zC.post (T_build (d := 17) hI nx) (fun r1 m1 h => ⟨b1, b2, b3, h⟩)⟩, ?_⟩
    refine ⟨fun _ => v_Law_law_488 ⟨b1, b2, fun z => zC.post (T_wall (d := 17) (Or.inl rfl) hI nx) (fun r1 m1 h => ⟨b1, b2, fun _ => h, fun q => absurd z q⟩), fun z => zC.post (T_wall (d := 17) (Or.inr rfl) hI nx) (fun r1 m1 h => ⟨b1, b2, fun q => absurd q z, fun _ => h⟩)⟩, ?_⟩
    refine ⟨fun _ => v_Law_law_537 ⟨b1, b2, zC.post (T_stand (d := 17) hI nx) (fun r1 m1 h => ⟨b1, b2, h⟩)⟩, ?_⟩
    refine ⟨fun _ => v_Law_law_570 ⟨b1, b2, zC.post (T_go (d := 16) hI nx) (fun r1 m1 h => ⟨b1, b2, h⟩)⟩, ?_⟩
    refine ⟨fun _ => v_Law_law_603 ⟨b1, b2, zC.post (T_far (d := 15) hI nx) (fun r1 m1 h => ⟨b1, b2, h⟩)⟩, ?_⟩
    refine ⟨fun _ => v_Law_law_636 ⟨b1, b2, b3, zC.post (T_way (d := 15) hI nx) (fun r1 m1 h => ⟨b1, b2, b3, h⟩)⟩, ?_⟩
    refine ⟨fun _ => v_Law_law_679 ⟨b1, zC.post (T_can (d := 15) hI nx) (fun r1 m1 h => ⟨b1, h⟩)⟩, ?_⟩
    refine ⟨fun _ => v_Law_law_702 ⟨b1, b2, zC.post (T_path (d := 15) hI nx) (fun r1 m1 h => ⟨b1, b2, h⟩)⟩, ?_⟩
    refine ⟨fun _ => v_Law_law_735 (T_pairs (d := 14) hI nx), ?_⟩
    refine ⟨fun _ => v_Law_law_748 (T_life (d := 14) hI nx), ?_⟩
    refine ⟨fun _ => v_Law_law_761 ⟨b1, b2, zC.post (T_trap (d := 13) hI nx) (fun r1 m1 h => ⟨b1, b2, h⟩)⟩, ?_⟩
    refine ⟨fun _ => v_Law_law_794 (T_secret (d := 15) hI nx), ?_⟩
    refine ⟨fun _ => v_Law_law_807 (T_safe (d := 14) hI nx), ?_⟩
    refine ⟨fun _ => v_Law_law_820 ⟨b1, b2, zC.post (T_round (d := 14) hI nx) (fun r1 m1 h => ⟨b1, b2, h⟩)⟩, ?_⟩
    refine ⟨fun _ => v_Law_law_853 ⟨b1, b2, zC.post (T_tour (d := 15) hI nx) (fun r1 m1 h => ⟨b1, b2, h⟩)⟩, ?_⟩
    refine ⟨fun _ => v_Law_law_886 ⟨b1, b2, b3, zC.post (T_talk (d := 11) hI nx) (fun r1 m1 h => ⟨b1, b2, b3, h⟩)⟩, ?_⟩
    refine ⟨fun _ => v_Law_law_929 ⟨b1, b2, b3, zC.post (T_cup (d := 11) hI nx) (fun r1 m1 h => ⟨b1, b2, b3, h⟩)⟩, ?_⟩
    refine ⟨fun _ => v_Law_law_972 ⟨b1, zC.post (T_more (d := 13) hI nx) (fun r1 m1 h => ⟨b1, h⟩)⟩, ?_⟩
    refine ⟨fun _ => v_Law_law_995 ⟨b1, zC.post (T_worst (d := 13) hI nx) (fun r1 m1 h => ⟨b1, h⟩)⟩, ?_⟩
    refine ⟨fun _ => v_Law_law_1018 ⟨b1, zC.post (T_mend (d := 12) hI nx) (fun r1 m1 h => ⟨b1, h⟩)⟩, ?_⟩
    refine ⟨fun _ => v_Law_law_1041 ⟨b1, zC.post (T_tell (d := 17) hI nx) (fun r1 m1 h => ⟨b1, h⟩)⟩, ?_⟩
    refine ⟨fun _ => v_Law_law_1064 (T_forget (d := 19) hI nx), ?_⟩
    refine ⟨fun _ => v_Law_law_1077 ⟨b1, zC.post (T_judge (d := 15) hI nx) (fun r1 m1 h => ⟨b1, h⟩)⟩, ?_⟩
    refine ⟨fun _ => v_Law_law_1100 ⟨b1, b2, b3, b4, zC.post (T_ajar (d := 3) hI nx) (fun r1 m1 h => ⟨b1, b2, b3, b4, h⟩)⟩, ?_⟩
    refine ⟨fun _ => v_Law_law_1153 ⟨b1, zC.post (T_keep (d := 17) hI nx) (fun r1 m1 h => ⟨b1, h⟩)⟩, ?_⟩
    refine ⟨fun _ => v_Law_law_1176 ⟨b1, zC.post (T_back (d := 17) hI nx) (fun r1 m1 h => ⟨b1, h⟩)⟩, ?_⟩
    refine ⟨fun _ => v_Law_law_1199 ⟨b1, b2, b3, zC.post (T_sheet (d := 17) hI nx) (fun r1 m1 h => ⟨b1, b2, b3, h⟩)⟩, ?_⟩
    refine ⟨fun _ => v_Law_law_1242 ⟨b1, b2, b3, zC.post (T_lay (d := 17) hI nx) (fun r1 m1 h => ⟨b1, b2, b3, h⟩)⟩, ?_⟩
    refine ⟨fun _ => v_Law_law_1285 ⟨b1, b2, b3, b4, b5, zC.post (T_read (d := 15) hI nx) (fun r1 m1 h => ⟨b1, b2, b3, b4, b5, h⟩)⟩, ?_⟩
    refine ⟨fun _ => v_Law_law_1348 (T_torn (d := 19) hI nx), ?_⟩
    refine ⟨fun _ => v_Law_law_1361 ⟨b1, zC.post (T_count (d := 14) hI nx) (fun r1 m1 h => ⟨b1, h⟩)⟩, ?_⟩
    exact fun _ => nx mem hI
end
