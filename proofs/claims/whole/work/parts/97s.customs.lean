/-! CUSTOMS -/
section
variable {N : Nat} {τ : XS}
theorem nb0 : vp_nar .boolean 0 = nI 0 := by decide
theorem beg_L {kk : XS → Option XO} {q : Nat} : fX0_begin_L10 N kk (q + 3) 0 τ = kk (xUp (xUp τ 43 0 (nI 0)) 43 1 (nI 0)) := by
  show fX0_begin_L10 N kk (q + 3) (nI 0) τ = _
  rw [fX0_begin_L10, l2, if_neg (nI_ge (by omega) (by omega)), xLet_e, nI_clamp (by omega), xin_t (by omega) (by omega), gd_t, nb0, nI_1]
  rw [fX0_begin_L10, l2, if_neg (nI_ge (by omega) (by omega)), xLet_e, nI_clamp (by omega), xin_t (by omega) (by omega), gd_t, nb0, nI_1]
  rw [fX0_begin_L10, l2, if_pos (nI_le (by omega) (by omega))]
theorem end_c (hN : 100 ≤ N) : ∃ τ', (xB (fX7_clear N τ) (fun y8 m9 => xB (fX0_begin N m9) (fun _ m12 => xB (fX4_clear N m12 44) (fun y14 m15 => xB (fX5_forget N m15) (fun _ m18 => some ((τ 11 4), m18)))))) = some (τ 11 4, τ') ∧ (∀ k, k < 14 → τ' 30 k = nI 0) ∧ (∀ k, k < 2 → τ' 43 k = nI 0) ∧ τ' 11 3 = nI 0 ∧ τ' 29 5 = nI 0 ∧ τ' 44 1 = nI 0 ∧ τ' 75 6 = nI 0 ∧ τ' 75 7 = nI 0 ∧ ∀ c b, c ≠ 30 → c ≠ 43 → ¬ (c = 11 ∧ b = 3) → ¬ (c = 29 ∧ b = 5) → ¬ (c = 44 ∧ b = 1) → ¬ (c = 75 ∧ (b = 6 ∨ b = 7)) → τ' c b = τ c b := by
  obtain ⟨τ1, t1, t2, t3⟩ := fillG (N := N) (σ := xUp τ 11 3 0) (L := 14) (r := 30) (v := 0) hN (by omega) rfl
  obtain ⟨q, hq⟩ : ∃ q, N = q + 3 := ⟨N - 3, by omega⟩
  have hb : fX0_begin N (xUp τ 11 3 0) = some (0, xUp (xUp (xUp τ1 43 0 (nI 0)) 43 1 (nI 0)) 29 5 0) := by
    unfold fX0_begin
    rw [t1, xB_s]
    have : ∀ kk, fX0_begin_L10 N kk N 0 τ1 = kk (xUp (xUp τ1 43 0 (nI 0)) 43 1 (nI 0)) := fun kk => by
      have := beg_L (N := N) (τ := τ1) (kk := kk) (q := q)
      rw [← hq] at this
      exact this
    rw [this, xLet_e]
  refine ⟨xUp (xUp (xUp (xUp (xUp (xUp τ1 43 0 (nI 0)) 43 1 (nI 0)) 29 5 0) 44 1 0) 75 6 0) 75 7 0, ?_, fun k hk => ?_, fun k hk => ?_, ?_, ?_, ?_, ?_, ?_, fun c b h1 h2 h3 h4 h5 h6 => ?_⟩
  · unfold fX7_clear fX4_clear fX5_forget
    rw [xLet_e, xB_s, hb, xB_s, xLet_e, xB_s, xLet_e, xLet_e, xB_s]
  · simp (disch := omega) only [up_c, up_s]
    rw [t2 k hk]; rfl
  · rcases (show k = 0 ∨ k = 1 by omega) with rfl | rfl
    · simp (disch := omega) only [up_c, up_s]
    · simp (disch := omega) only [up_c, up_s]
  · simp (disch := omega) only [up_c, up_s]
    rw [t3 11 3 (by decide), up_s]; rfl
  · simp (disch := omega) only [up_c, up_s]; rfl
  · simp (disch := omega) only [up_c, up_s]; rfl
  · simp (disch := omega) only [up_c, up_s]; rfl
  · simp (disch := omega) only [up_c, up_s]; rfl
  · simp (disch := omega) only [up_c]
    rw [t3 c b h1, up_c (by omega)]
theorem zr47 {kk : XS → Option XO} : ∀ (d k m : Nat) (τ : XS), k + d = 6 → d < m → ∃ τ', fX10_customs_L47 N kk m (nI k) τ = kk τ' ∧ (∀ j, k ≤ j → j < 6 → τ' 86 (48 + 3 * j) = nI 0) ∧ ∀ c b, ¬ (c = 86 ∧ 48 + 3 * k ≤ b ∧ b < 64 ∧ b % 3 = 0) → τ' c b = τ c b := by
  intro d
  induction d with
  | zero =>
    intro k m τ hk hm
    obtain ⟨m, rfl⟩ : ∃ z, m = z + 1 := ⟨m - 1, by omega⟩
    refine ⟨τ, ?_, fun j h1 h2 => by omega, fun _ _ _ => rfl⟩
    rw [fX10_customs_L47, l6, if_pos (nI_le (by omega) (by omega))]
  | succ d ih =>
    intro k m τ hk hm
    obtain ⟨m, rfl⟩ : ∃ z, m = z + 1 := ⟨m - 1, by omega⟩
    obtain ⟨τ', r1, r2, r3⟩ := ih (k + 1) m (xUp τ 86 (46 + 3 * k + 2) 0) (by omega) (by omega)
    refine ⟨τ', ?_, fun j h1 h2 => ?_, fun c b q => ?_⟩
    · rw [fX10_customs_L47, l6, if_neg (nI_ge (by omega) (by omega)), m3, a46, add2, xLet_e, nI_clamp (by omega), xin_t (by omega) (by omega), gd_t, nI_1]
      exact r1
    · by_cases z : j = k
      · rw [z, r3 _ _ (by omega), show 48 + 3 * k = 46 + 3 * k + 2 by omega, up_s]; rfl
      · exact r2 j (by omega) h2
    · rw [r3 c b (by omega), up_c (by omega)]
theorem zr75 {kk : XS → Option XO} : ∀ (d k m : Nat) (τ : XS), k + d = 6 → d < m → ∃ τ', fX10_customs_L75 N kk m (nI k) τ = kk τ' ∧ (∀ j, k ≤ j → j < 6 → τ' 86 (67 + j) = nI 0) ∧ ∀ c b, ¬ (c = 86 ∧ 67 + k ≤ b ∧ b < 73) → τ' c b = τ c b := by
  intro d
  induction d with
  | zero =>
    intro k m τ hk hm
    obtain ⟨m, rfl⟩ : ∃ z, m = z + 1 := ⟨m - 1, by omega⟩
    refine ⟨τ, ?_, fun j h1 h2 => by omega, fun _ _ _ => rfl⟩
    rw [fX10_customs_L75, l6, if_pos (nI_le (by omega) (by omega))]
  | succ d ih =>
    intro k m τ hk hm
    obtain ⟨m, rfl⟩ : ∃ z, m = z + 1 := ⟨m - 1, by omega⟩
    obtain ⟨τ', r1, r2, r3⟩ := ih (k + 1) m (xUp τ 86 (67 + k) 0) (by omega) (by omega)
    refine ⟨τ', ?_, fun j h1 h2 => ?_, fun c b q => ?_⟩
    · rw [fX10_customs_L75, l6, if_neg (nI_ge (by omega) (by omega)), a67, xLet_e, nI_clamp (by omega), xin_t (by omega) (by omega), gd_t, nI_1]
      exact r1
    · by_cases z : j = k
      · rw [z, r3 _ _ (by omega), up_s]; rfl
      · exact r2 j (by omega) h2
    · rw [r3 c b (by omega), up_c (by omega)]
theorem end_m (hN : 100 ≤ N) : ∃ τ', (xLet (xUp τ 86 (4 : Int32).toNatClampNeg 0) (fun m8 => gd (xin 4 98) (xLet (xUp m8 86 (5 : Int32).toNatClampNeg 0) (fun m11 => gd (xin 5 98) (fX10_customs_L47 N (fun m17 => fX10_customs_L75 N (fun m21 => xLet (xUp m21 85 11 0) (fun m22 => xLet (xUp m22 85 6 0) (fun m24 => xLet (xUp m24 85 8 0) (fun m26 => xLet (xUp m26 85 9 0) (fun m28 => xLet (xUp m28 89 (0 : Int32).toNatClampNeg (vp_nar .boolean 0)) (fun m30 => gd (xin 0 2) (xLet (xUp m30 89 (1 : Int32).toNatClampNeg (vp_nar .boolean 0)) (fun m33 => gd (xin 1 2) (xLet (xUp m33 85 2 0) (fun m36 => some ((m36 85 17), m36))))))))))) N 0 m17) N 0 m11))))) = some (τ 85 17, τ') ∧
    τ' 86 4 = nI 0 ∧ τ' 86 5 = nI 0 ∧ (∀ j, j < 6 → τ' 86 (48 + 3 * j) = nI 0) ∧ (∀ j, j < 6 → τ' 86 (67 + j) = nI 0) ∧ τ' 85 11 = nI 0 ∧ τ' 85 6 = nI 0 ∧ τ' 85 8 = nI 0 ∧ τ' 85 9 = nI 0 ∧ τ' 85 2 = nI 0 ∧ (∀ k, k < 2 → τ' 89 k = nI 0) ∧ (∀ c b, c ≠ 85 → c ≠ 86 → c ≠ 89 → τ' c b = τ c b) ∧ ∀ b, ¬ (b = 4 ∨ b = 5) → ¬ (48 ≤ b ∧ b < 64 ∧ b % 3 = 0) → ¬ (67 ≤ b ∧ b < 73) → τ' 86 b = τ 86 b := by
  have x498 : xin 4 98 = true := rfl
  have x598 : xin 5 98 = true := rfl
  have x02 : xin 0 2 = true := rfl
  have x12 : xin 1 2 = true := rfl
  obtain ⟨τ1, s1, s2, s3⟩ := zr47 (N := N) (kk := fun m17 => fX10_customs_L75 N (fun m21 => xLet (xUp m21 85 11 0) (fun m22 => xLet (xUp m22 85 6 0) (fun m24 => xLet (xUp m24 85 8 0) (fun m26 => xLet (xUp m26 85 9 0) (fun m28 => xLet (xUp m28 89 (0 : Int32).toNatClampNeg (vp_nar .boolean 0)) (fun m30 => gd (xin 0 2) (xLet (xUp m30 89 (1 : Int32).toNatClampNeg (vp_nar .boolean 0)) (fun m33 => gd (xin 1 2) (xLet (xUp m33 85 2 0) (fun m36 => some ((m36 85 17), m36))))))))))) N 0 m17) 6 0 N (xUp (xUp τ 86 4 0) 86 5 0) (by omega) (by omega)
  obtain ⟨τ2, r1, r2, r3⟩ := zr75 (N := N) (kk := fun m21 => xLet (xUp m21 85 11 0) (fun m22 => xLet (xUp m22 85 6 0) (fun m24 => xLet (xUp m24 85 8 0) (fun m26 => xLet (xUp m26 85 9 0) (fun m28 => xLet (xUp m28 89 (0 : Int32).toNatClampNeg (vp_nar .boolean 0)) (fun m30 => gd (xin 0 2) (xLet (xUp m30 89 (1 : Int32).toNatClampNeg (vp_nar .boolean 0)) (fun m33 => gd (xin 1 2) (xLet (xUp m33 85 2 0) (fun m36 => some ((m36 85 17), m36))))))))))) 6 0 N τ1 (by omega) (by omega)
  refine ⟨xUp (xUp (xUp (xUp (xUp (xUp (xUp τ2 85 11 0) 85 6 0) 85 8 0) 85 9 0) 89 0 (nI 0)) 89 1 (nI 0)) 85 2 0, ?_, ?_, ?_, fun j hj => ?_, fun j hj => ?_, ?_, ?_, ?_, ?_, ?_, fun k hk => ?_, fun c b h1 h2 h3 => ?_, fun b h1 h2 h3 => ?_⟩
  · rw [xLet_e, c4, x498, gd_t, xLet_e, c5, x598, gd_t]
    refine s1.trans (r1.trans ?_)
    rw [xLet_e, xLet_e, xLet_e, xLet_e, xLet_e, x02, gd_t, xLet_e, x12, gd_t, xLet_e, nb0, c0, c1]
    simp (disch := omega) only [up_c]
    rw [r3 85 17 (by omega), s3 85 17 (by omega)]
    simp (disch := omega) only [up_c]
  · simp (disch := omega) only [up_c]
    rw [r3 86 4 (by omega), s3 86 4 (by omega)]
    simp (disch := omega) only [up_c, up_s]; rfl
  · simp (disch := omega) only [up_c]
    rw [r3 86 5 (by omega), s3 86 5 (by omega)]
    simp (disch := omega) only [up_c, up_s]; rfl
  · simp (disch := omega) only [up_c]
    rw [r3 86 _ (by omega), s2 j (by omega) hj]
  · simp (disch := omega) only [up_c]
    exact r2 j (by omega) hj
  · simp (disch := omega) only [up_c, up_s]; rfl
  · simp (disch := omega) only [up_c, up_s]; rfl
  · simp (disch := omega) only [up_c, up_s]; rfl
  · simp (disch := omega) only [up_c, up_s]; rfl
  · simp (disch := omega) only [up_c, up_s]; rfl
  · rcases (show k = 0 ∨ k = 1 by omega) with rfl | rfl
    · simp (disch := omega) only [up_c, up_s]
    · simp (disch := omega) only [up_c, up_s]
  · simp (disch := omega) only [up_c]
    rw [r3 c b (by omega), s3 c b (by omega)]
    simp (disch := omega) only [up_c]
  · simp (disch := omega) only [up_c]
    rw [r3 86 b (by omega), s3 86 b (by omega)]
    simp (disch := omega) only [up_c]
end
theorem sim_customs {N : Nat} (hN : 200 ≤ N) : Sim3 N RR := by
  intro σ hR
  obtain ⟨A, h⟩ := id hR
  obtain ⟨n, t, q1, q2, q3, q4⟩ := h.2.2.2.2.2.1
  have hC : TxC n t σ := ⟨q1, q2, fun i hi => ⟨(q4 i hi).1, (q4 i hi).2.1⟩⟩
  have hM : TxM n t σ := ⟨q1, q3, fun i hi => ⟨(q4 i hi).1, (q4 i hi).2.2⟩⟩
  have hA : A 0 0 ≤ 9 ∧ A 0 1 ≤ 6 ∧ A 0 2 ≤ 3 := ⟨h.w.2.2, h.a.2.2, h.c.2.2⟩
  rcases reads_cm hN hA hC hM ⟨h.w.1, h.a.1, h.c.1⟩ ⟨h.w.2.1, h.a.2.1, h.c.2.1⟩ with ⟨S, τ, φ0, a0, fc, -, a3, -, -⟩ | ⟨L, τ, φ0, fc, -, a3, -, a5, a6, -, a8⟩
  · have hM2 : TxM n t τ := hM.eq (fun k => fc _ _ (by omega) (by omega) (by omega)) (fc _ _ (by omega) (by omega) (by omega))
    have g : ∀ b, τ 86 b = σ 86 b := fun b => fc _ _ (by omega) (by omega) (by omega)
    have hn := nI_m1 (a := S) (by omega)
    rcases reads_cm hN hA hC hM2 ⟨h.w.1, h.a.1, h.c.1⟩ ⟨(g 0).trans h.w.2.1, (g 1).trans h.a.2.1, (g 2).trans h.c.2.1⟩ with ⟨S', τ', φ, b0, -, fm, b3, b4, b5⟩ | ⟨M, τ', φ, -, -, b3, -, -, -, -, -⟩
    · refine sim_kp hR (r := -4) (f := fun σ => fX9_customs N σ) (g := fun σ => fX10_customs N σ) (σ1 := τ) (σ2 := φ) ?_ ?_ (kp_fc fc) (kp_fm fm)
      · show fX9_customs N σ = _
        unfold fX9_customs
        rw [a3, xB_s, if_neg hn]
      · show fX10_customs N τ = _
        unfold fX10_customs
        rw [b4, xB_s, if_pos rfl]
    · rw [a3] at b3
      injection b3 with b3
      injection b3 with e1 e2
      exact absurd e1 hn
  · have e9 : ∀ c b, 1 ≤ c → c ≤ 10 → τ c b = σ c b := fun c b h1 h2 => fc c b (by omega) (by omega) (by omega)
    rw [Nat.zero_add] at a5 a6
    obtain ⟨τ1, t1, t2, t3⟩ := obeys_c (N := N) (kk := fun m7 => xB (fX7_clear N m7) (fun y8 m9 => xB (fX0_begin N m9) (fun _ m12 => xB (fX4_clear N m12 44) (fun y14 m15 => xB (fX5_forget N m15) (fun _ m18 => some ((m7 11 4), m18)))))) (c := L.length) (by omega) L 0 N A τ τ φ0 (by omega) a5 (by omega) a6 (fun _ _ _ => rfl) a8 (h.tc.eq e9)
    obtain ⟨τ2, u1, u2, u3, u4, u5, u6, u7, u8, u9⟩ := end_c (N := N) (τ := τ1) (by omega)
    have ec : fX9_customs N σ = some (nI L.length, τ2) := by
      unfold fX9_customs
      rw [a3, xB_s, if_pos rfl]
      refine t1.trans (u1.trans ?_)
      rw [t3 11 4 (by omega), a6]
    -- the class leaves what the reference reads
    have fr : ∀ c b, c ≠ 30 → c ≠ 43 → c ≠ 11 → c ≠ 29 → c ≠ 44 → c ≠ 75 → ¬ (1 ≤ c ∧ c ≤ 10) → c ≠ 13 → ¬ (15 ≤ c ∧ c ≤ 28) → τ2 c b = σ c b := fun c b z1 z2 z3 z4 z5 z6 z7 z8 z9 => by
      rw [u9 c b z1 z2 (by omega) (by omega) (by omega) (by omega), t3 c b z7, fc c b (by omega) (by omega) (by omega)]
    have hM2 : TxM n t τ2 := hM.eq (fun k => fr _ _ (by omega) (by omega) (by omega) (by omega) (by omega) (by omega) (by omega) (by omega) (by omega)) (fr _ _ (by omega) (by omega) (by omega) (by omega) (by omega) (by omega) (by omega) (by omega) (by omega))
    have g : ∀ b, τ2 86 b = σ 86 b := fun b => fr _ _ (by omega) (by omega) (by omega) (by omega) (by omega) (by omega) (by omega) (by omega) (by omega)
    rcases reads_cm hN hA hC hM2 ⟨h.w.1, h.a.1, h.c.1⟩ ⟨(g 0).trans h.w.2.1, (g 1).trans h.a.2.1, (g 2).trans h.c.2.1⟩ with ⟨S', τ', φ, b0, -, fm, b3, b4, b5⟩ | ⟨M, τ', φ, -, fm, b3, b4, b5, b6, b7, b8⟩
    · rw [a3] at b3
      injection b3 with b3
      injection b3 with e1 e2
      exact absurd e1.symm (nI_m1 (by omega))
    · rw [a3] at b3
      injection b3 with b3
      injection b3 with e1 e2
      subst e2
      rw [Nat.zero_add] at b5 b6 b7
      have el : L.length = M.length := (nI_eq (by omega) (by omega)).mp (a6.symm.trans b6)
      have eA : foA L A = foA M A := fo_eq L M 0 A τ φ0 φ el a8 b8
      have hW : TW (foA L A) := fo_tw L 0 A τ φ0 a8 h.tw
      have e86 : φ 86 = σ 86 := funext fun b => (fm 86 b (by omega) (by omega)).trans (g b)
      obtain ⟨φ1, d1, d2, d3⟩ := doall_m (N := N) (kk := fun m7 => xLet (xUp m7 86 (4 : Int32).toNatClampNeg 0) (fun m8 => gd (xin 4 98) (xLet (xUp m8 86 (5 : Int32).toNatClampNeg 0) (fun m11 => gd (xin 5 98) (fX10_customs_L47 N (fun m17 => fX10_customs_L75 N (fun m21 => xLet (xUp m21 85 11 0) (fun m22 => xLet (xUp m22 85 6 0) (fun m24 => xLet (xUp m24 85 8 0) (fun m26 => xLet (xUp m26 85 9 0) (fun m28 => xLet (xUp m28 89 (0 : Int32).toNatClampNeg (vp_nar .boolean 0)) (fun m30 => gd (xin 0 2) (xLet (xUp m30 89 (1 : Int32).toNatClampNeg (vp_nar .boolean 0)) (fun m33 => gd (xin 1 2) (xLet (xUp m33 85 2 0) (fun m36 => some ((m36 85 17), m36))))))))))) N 0 m17) N 0 m11))))) (c := M.length) (by omega) M 0 N A φ φ τ (by omega) b5 (by omega) b7 (fun _ _ _ => rfl) b8 h.tw (by rw [e86]; exact h.tm)
      obtain ⟨φ2, w1, w2, w3, w4, w5, w6, w7, w8, w9, w10, w11, w12, w13⟩ := end_m (N := N) (τ := φ1) (by omega)
      have em : fX10_customs N τ2 = some (nI L.length, φ2) := by
        unfold fX10_customs
        rw [b4, xB_s, if_neg (by decide)]
        refine d1.trans (w1.trans ?_)
        rw [d3 85 17 (by omega), b7, el]
      -- what both left
      have k1 : ∀ c b, c ≠ 85 → c ≠ 86 → c ≠ 89 → c ≠ 93 → φ2 c b = τ2 c b := fun c b z1 z2 z3 z4 => by
        rw [w12 c b z1 z2 z3, d3 c b z2, fm c b (by omega) (by omega)]
      refine sim_mk (f := fun σ => fX9_customs N σ) (g := fun σ => fX10_customs N σ) (nI L.length) τ2 φ2 ec em ⟨foA L A, hW, ?_, ?_, ?_, ?_, ?_, ?_⟩
      · exact t2.eq (fun c b z1 z2 => by rw [k1 c b (by omega) (by omega) (by omega) (by omega), u9 c b (by omega) (by omega) (by omega) (by omega) (by omega) (by omega)])
      · refine ⟨⟨0, by omega, ?_, w2⟩, ?_, fun a ha => ⟨0, by omega, ?_, w4 a ha⟩, fun r hr => ⟨0, by omega, ?_, w5 r hr⟩, ?_⟩
        · rw [k1 30 0 (by omega) (by omega) (by omega) (by omega), u2 0 (by omega)]
        · rw [k1 30 1 (by omega) (by omega) (by omega) (by omega), u2 1 (by omega), w3]
        · rw [k1 30 _ (by omega) (by omega) (by omega) (by omega), u2 _ (by omega)]
        · rw [k1 30 _ (by omega) (by omega) (by omega) (by omega), u2 _ (by omega)]
        · rw [← eA] at d2
          obtain ⟨n0, n1, n2⟩ : foA L A 0 0 ≤ 9 ∧ foA L A 0 1 ≤ 6 ∧ foA L A 0 2 ≤ 3 := ⟨hW.1, hW.2.1, hW.2.2.1⟩
          obtain ⟨a1, a2, a3, a4, a5, a6, a7, a8, a9⟩ := d2
          refine ⟨?_, ?_, ?_, ?_, fun w hw => ⟨?_, ?_, ?_, ?_⟩, fun p hp => ?_, fun a ha => ⟨?_, ?_⟩, fun c hc => ?_, fun r hr => ?_⟩
          · rw [w13 0 (by omega) (by omega) (by omega)]; exact a1
          · rw [w13 1 (by omega) (by omega) (by omega)]; exact a2
          · rw [w13 2 (by omega) (by omega) (by omega)]; exact a3
          · rw [w13 3 (by omega) (by omega) (by omega)]; exact a4
          · rw [w13 _ (by omega) (by omega) (by omega)]; exact (a5 w hw).1
          · rw [w13 _ (by omega) (by omega) (by omega)]; exact (a5 w hw).2.1
          · rw [w13 _ (by omega) (by omega) (by omega)]; exact (a5 w hw).2.2.1
          · rw [w13 _ (by omega) (by omega) (by omega)]; exact (a5 w hw).2.2.2
          · rw [w13 _ (by omega) (by omega) (by omega)]; exact a6 p hp
          · rw [w13 _ (by omega) (by omega) (by omega)]; exact (a7 a ha).1
          · rw [w13 _ (by omega) (by omega) (by omega)]; exact (a7 a ha).2
          · rw [w13 _ (by omega) (by omega) (by omega)]; exact a8 c hc
          · rw [w13 _ (by omega) (by omega) (by omega)]; exact a9 r hr
      · obtain ⟨⟨u, nx, y1, y2, y3, y4, y5, y6⟩, y7⟩ := h.2.2.2.1
        refine ⟨⟨0, nx, by omega, y2, ?_, w10, ?_, fun i hi => by omega⟩, fun k hk => ⟨0, by omega, ?_, w11 k hk, fun z => by omega⟩⟩
        · rw [k1 29 5 (by omega) (by omega) (by omega) (by omega), u5]
        · rw [k1 29 4 (by omega) (by omega) (by omega) (by omega), u9 29 4 (by omega) (by omega) (by omega) (by omega) (by omega) (by omega), t3 29 4 (by omega), fc 29 4 (by omega) (by omega) (by omega)]
          exact y5
        · rw [k1 43 k (by omega) (by omega) (by omega) (by omega), u3 k hk]
      · exact ⟨0, fun _ => 0, by omega, by rw [k1 44 1 (by omega) (by omega) (by omega) (by omega), u6], w7, fun i hi => by omega⟩
      · exact ⟨0, fun _ => 0, by omega, by rw [k1 11 3 (by omega) (by omega) (by omega) (by omega), u4], w6, fun i hi => by omega⟩
      · have f68 : ∀ b, φ2 68 b = σ 68 b := fun b => by
          rw [k1 68 b (by omega) (by omega) (by omega) (by omega)]
          exact fr 68 b (by omega) (by omega) (by omega) (by omega) (by omega) (by omega) (by omega) (by omega) (by omega)
        have hz := h.2.2.2.2.2.2.1
        exact ⟨⟨(f68 0).trans hz.1, (f68 1).trans hz.2⟩, 0, 0, fun _ => 0, fun _ => 0, by omega, by omega, by rw [k1 75 6 (by omega) (by omega) (by omega) (by omega), u7], w9, by rw [k1 75 7 (by omega) (by omega) (by omega) (by omega), u8], w8, fun i hi => by omega⟩
