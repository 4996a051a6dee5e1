theorem sec_len {A : Nat → Nat → Nat} {σ : XS} (h : RA A σ) : ∃ s, s ≤ 3 ∧ σ 75 6 = nI s ∧ σ 85 9 = nI s := by
  obtain ⟨h1, h2, h3, h4, h5, h6, hz, s', m, cl, nu, e1, e2, e3, e4, e5, e6, e7⟩ := id h
  exact ⟨s', e1, e3, e4⟩
theorem sim_canBe {N : Nat} (hN : 1000 ≤ N) : Sim33 N RR := by
  intro σ a hR
  obtain ⟨A, h⟩ := id hR
  obtain ⟨s, s3, s4, s5⟩ := sec_len h
  rcases or_assoc.mpr (icase a 2 (by decide)) with ha | ⟨j, hj, rfl⟩
  · refine sim_mk (f := fun σ => fX9_canBe N σ a) (g := fun σ => fX10_canBe N σ a) (-3) σ σ ?_ ?_ hR
    · show fX9_canBe N σ a = _
      unfold fX9_canBe
      by_cases h0 : a < 0
      · rw [if_pos h0]
      · have h2 : nI 2 ≤ a := by rcases ha with q | q; exact absurd q h0; exact q
        rw [if_neg h0, if_neg (fun q => absurd (Int32.le_trans h2 q) (by decide))]
    · show fX10_canBe N σ a = _
      unfold fX10_canBe
      rw [show (1 : Int64) = (nI 2 - 1).toInt64 from rfl, ref_test (by decide), xB_s, ite1, if_neg (out_ex ha (by decide))]
  · have hc : fX9_canBe N σ (nI j) = if s = 0 then some (-4, σ) else xB (fX5_solve N σ) (fun _ m2 => if nI j = 0 then some ((m2 75 8), m2) else some ((m2 75 9), m2)) := by
      unfold fX9_canBe
      rw [if_neg (nI_pos (by omega)), l1, if_pos (nI_le (by omega) (by decide)), s4, isz (by omega)]
    have hm : ∀ τ : XS, τ 85 9 = nI s → fX10_canBe N τ (nI j) = if s = 0 then some (-4, τ) else xB (fX10_goesThrough N τ) (fun _ m5 => if nI j = 0 then some ((m5 85 23), m5) else some ((m5 85 26), m5)) := by
      intro τ e
      unfold fX10_canBe
      rw [show (1 : Int64) = (nI 2 - 1).toInt64 from rfl, ref_test (by decide), xB_s, ite1, if_pos ⟨j, hj, rfl⟩, e, isz (by omega)]
    by_cases z : s = 0
    · refine sim_mk (f := fun σ => fX9_canBe N σ (nI j)) (g := fun σ => fX10_canBe N σ (nI j)) (-4) σ σ ?_ ?_ hR
      · show fX9_canBe N σ (nI j) = _
        rw [hc, if_pos z]
      · show fX10_canBe N σ (nI j) = _
        rw [hm σ s5, if_pos z]
    · obtain ⟨G, τ, ρ, b1, b2, b3, b4, b5, b6⟩ := both_m hN h s4 (by omega) s3
      refine sim_kp (f := fun σ => fX9_canBe N σ (nI j)) (g := fun σ => fX10_canBe N σ (nI j)) (r := if nI j = 0 then nI (Fc G (A 0 0 ^ s)) else nI (wbC G (fun c => ps A (dg (A 0 0) s c) s) (A 0 1) (A 0 0 ^ s))) (σ1 := τ) (σ2 := ρ) hR ?_ ?_ (kp_sc b5) (kp_sm b6)
      · show fX9_canBe N σ (nI j) = _
        rw [hc, if_neg z, b1, xB_s, b3.2.2.1, b3.2.2.2.1]
        by_cases y : nI j = 0
        · rw [if_pos y, if_pos y]
        · rw [if_neg y, if_neg y]
      · show fX10_canBe N τ (nI j) = _
        rw [hm τ ((b5 _ _ (by unfold sc; omega)).trans s5), if_neg z, b2, xB_s, b4.1, b4.2.1]
        by_cases y : nI j = 0
        · rw [if_pos y, if_pos y]
        · rw [if_neg y, if_neg y]
theorem sim_canBeWord {N : Nat} (hN : 1000 ≤ N) : Sim34 N RR := by
  intro σ p a hR
  obtain ⟨A, h⟩ := id hR
  obtain ⟨s, s3, s4, s5⟩ := sec_len h
  by_cases hp : p < 0
  · refine sim_mk (f := fun σ => fX9_canBeWord N σ p a) (g := fun σ => fX10_canBeWord N σ p a) (-3) σ σ ?_ ?_ hR
    · show fX9_canBeWord N σ p a = _
      unfold fX9_canBeWord
      rw [if_pos hp]
    · show fX10_canBeWord N σ p a = _
      unfold fX10_canBeWord
      rw [if_pos hp]
  obtain ⟨i, hi, rfl⟩ := nI_of hp
  rcases or_assoc.mpr (icase a 2 (by decide)) with ha | ⟨j, hj, rfl⟩
  · refine sim_mk (f := fun σ => fX9_canBeWord N σ (nI i) a) (g := fun σ => fX10_canBeWord N σ (nI i) a) (-3) σ σ ?_ ?_ hR
    · show fX9_canBeWord N σ (nI i) a = _
      unfold fX9_canBeWord
      rw [if_neg hp]
      by_cases h0 : a < 0
      · rw [if_pos h0]
      · have h2 : nI 2 ≤ a := by rcases ha with q | q; exact absurd q h0; exact q
        rw [if_neg h0, if_neg (fun q => absurd (Int32.le_trans h2 q) (by decide))]
    · show fX10_canBeWord N σ (nI i) a = _
      unfold fX10_canBeWord
      rw [if_neg hp, show (1 : Int64) = (nI 2 - 1).toInt64 from rfl, ref_test (by decide), xB_s, ite1, if_neg (out_ex ha (by decide))]
  · have hc : fX9_canBeWord N σ (nI i) (nI j) = if s = 0 then some (-4, σ) else xB (fX5_solve N σ) (fun _ m2 => if nI j = 0 then xB (fX4_wordAt N m2 80 (nI i)) (fun y7 m8 => some (y7, m8)) else xB (fX4_wordAt N m2 82 (nI i)) (fun y4 m5 => some (y4, m5))) := by
      unfold fX9_canBeWord
      rw [if_neg hp, if_neg (nI_pos (by omega)), l1, if_pos (nI_le (by omega) (by decide)), s4, isz (by omega)]
    have hm : ∀ τ : XS, τ 85 9 = nI s → fX10_canBeWord N τ (nI i) (nI j) = if s = 0 then some (-4, τ) else xB (fX10_goesThrough N τ) (fun _ m5 => if (m5 85 23) = 0 then some ((-1), m5) else if nI i < (m5 85 9) then if nI j = 0 then gd (xin (nI i) 6) (some ((m5 95 (nI i).toNatClampNeg), m5)) else gd (xin (nI i) 3) (some ((m5 97 (nI i).toNatClampNeg), m5)) else some ((-1), m5)) := by
      intro τ e
      unfold fX10_canBeWord
      rw [if_neg hp, show (1 : Int64) = (nI 2 - 1).toInt64 from rfl, ref_test (by decide), xB_s, ite1, if_pos ⟨j, hj, rfl⟩, e, isz (by omega)]
    by_cases z : s = 0
    · refine sim_mk (f := fun σ => fX9_canBeWord N σ (nI i) (nI j)) (g := fun σ => fX10_canBeWord N σ (nI i) (nI j)) (-4) σ σ ?_ ?_ hR
      · show fX9_canBeWord N σ (nI i) (nI j) = _
        rw [hc, if_pos z]
      · show fX10_canBeWord N σ (nI i) (nI j) = _
        rw [hm σ s5, if_pos z]
    · obtain ⟨G, τ, ρ, b1, b2, b3, b4, b5, b6⟩ := both_m hN h s4 (by omega) s3
      obtain ⟨i1, i2, i3, i4, i5, i6⟩ := b3
      obtain ⟨j1, j2, j3⟩ := b4
      have e9 : ρ 85 9 = nI s := (b6 _ _ (by unfold sm; omega)).trans ((b5 _ _ (by unfold sc; omega)).trans s5)
      have w9 := h.1.1
      have hpow : A 0 0 ^ s ≤ 729 := by
        have e1 : A 0 0 ^ s ≤ 9 ^ s := Nat.pow_le_pow_left w9 s
        have e2 : 9 ^ s ≤ 9 ^ 3 := Nat.pow_le_pow_right (by decide) s3
        have e3 : 9 ^ 3 = 729 := rfl
        omega
      have fle := Fc_le (G := G) (A 0 0 ^ s)
      have go : ∀ r : Int32, fX9_canBeWord N σ (nI i) (nI j) = some (r, τ) → fX10_canBeWord N τ (nI i) (nI j) = some (r, ρ) → ∃ (r : Int32) (σ1 σ2 : XS), fX9_canBeWord N σ (nI i) (nI j) = some (r, σ1) ∧ fX10_canBeWord N σ1 (nI i) (nI j) = some (r, σ2) ∧ RR σ2 := fun r g1 g2 =>
        sim_kp (f := fun σ => fX9_canBeWord N σ (nI i) (nI j)) (g := fun σ => fX10_canBeWord N σ (nI i) (nI j)) hR g1 g2 (kp_sc b5) (kp_sm b6)
      have wa : ∀ L t : Nat, τ L 1 = nI t → t ≤ 3 → fX4_wordAt N τ L (nI i) = if i < t then some (τ (L + 1) i, τ) else some (-1, τ) := by
        intro L t e g
        unfold fX4_wordAt
        rw [if_neg hp, e]
        by_cases q : i < t
        · rw [if_neg (nI_ge q (by omega)), if_pos q, l6, if_neg (nI_ge (by omega) (by omega)), xin_t (by omega) (by decide), gd_t, nI_clamp (by omega)]
        · rw [if_pos (nI_le (by omega) (by omega)), if_neg q]
      have hm2 : fX10_canBeWord N τ (nI i) (nI j) = if Fc G (A 0 0 ^ s) = 0 then some (-1, ρ) else if i < s then (if nI j = 0 then some (ρ 95 i, ρ) else some (ρ 97 i, ρ)) else some (-1, ρ) := by
        rw [hm τ ((b5 _ _ (by unfold sc; omega)).trans s5), if_neg z, b2, xB_s, j1, isz (by omega), e9]
        by_cases y : i < s
        · rw [if_pos (nI_lt y (by omega)), if_pos y, xin_t (by omega) (by decide), xin_t (by omega) (by decide), gd_t, gd_t, nI_clamp (by omega)]
        · rw [if_neg (nI_nlt (by omega) (by omega)), if_neg y]
      have hc2 : fX9_canBeWord N σ (nI i) (nI j) = xB (if nI j = 0 then fX4_wordAt N τ 80 (nI i) else fX4_wordAt N τ 82 (nI i)) (fun y7 m8 => some (y7, m8)) := by
        rw [hc, if_neg z, b1, xB_s]
        by_cases y : nI j = 0
        · rw [if_pos y, if_pos y]
        · rw [if_neg y, if_neg y]
      by_cases f0 : Fc G (A 0 0 ^ s) = 0
      · obtain ⟨q1, q2⟩ := i5 f0
        refine go (-1) ?_ (by rw [hm2, if_pos f0])
        rw [hc2, wa 80 0 q1 (by omega), wa 82 0 q2 (by omega), if_neg (show ¬ i < 0 by omega), if_neg (show ¬ i < 0 by omega), ite_self, xB_s]
      · obtain ⟨q1, q2, q3⟩ := i6 (by omega)
        rw [if_neg f0] at hm2
        rw [wa 80 s q1 s3, wa 82 s q2 s3] at hc2
        by_cases y : i < s
        · rw [if_pos y, if_pos y] at hc2
          rw [if_pos y] at hm2
          obtain ⟨g1, g2⟩ := q3 i y
          obtain ⟨k1, k2⟩ := j3 (by omega) i y
          rw [k1, k2] at hm2
          have g1' : τ (80 + 1) i = _ := g1
          have g2' : τ (82 + 1) i = _ := g2
          rw [g1', g2'] at hc2
          by_cases x : nI j = 0
          · rw [if_pos x] at hc2 hm2
            exact go _ hc2 hm2
          · rw [if_neg x] at hc2 hm2
            exact go _ hc2 hm2
        · rw [if_neg y, if_neg y, ite_self, xB_s] at hc2
          rw [if_neg y] at hm2
          exact go _ hc2 hm2
