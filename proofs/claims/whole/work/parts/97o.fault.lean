/-! READING A TEXT, its fault -/
section
variable {N n : Nat} {t : Nat → Nat} {A : Nat → Nat → Nat} {σ ρ : XS}
theorem reads_cm (hN : 200 ≤ N) (hA : A 0 0 ≤ 9 ∧ A 0 1 ≤ 6 ∧ A 0 2 ≤ 3) (hC : TxC n t σ) (hM : TxM n t ρ) (c : σ 1 9 = nI (A 0 0) ∧ σ 1 10 = nI (A 0 1) ∧ σ 1 11 = nI (A 0 2)) (g : ρ 86 0 = nI (A 0 0) ∧ ρ 86 1 = nI (A 0 1) ∧ ρ 86 2 = nI (A 0 2)) : RdR n 0 A σ ρ (fX7_read N σ) (fX10_reads N ρ) := by
  obtain ⟨N, rfl⟩ : ∃ q, N = q + 1 := ⟨N - 1, by omega⟩
  have x098 : xin 0 98 = true := rfl
  have x198 : xin 1 98 = true := rfl
  have x298 : xin 2 98 = true := rfl
  obtain ⟨σ1, e1⟩ : ∃ z, z = xUp (xUp (xUp (xUp (xUp σ 11 7 (nI (A 0 0))) 11 8 (nI (A 0 1))) 11 9 (nI (A 0 2))) 11 4 0) 11 6 0 := ⟨_, rfl⟩
  have eC : fX7_read (N + 1) σ = fX7_read_L36 (N + 1) rkC rkE rkC rkC (N + 1) (nI 0) σ1 := by
    unfold fX7_read
    rw [xLet_e, xLet_e, xLet_e, xLet_e, xLet_e, c.1]
    rw [up_c (by omega), c.2.1, up_c (by omega), up_c (by omega), c.2.2, ← e1]
    rfl
  have f1 : ∀ d b, ¬ (d = 11 ∧ 4 ≤ b ∧ b ≤ 9) → σ1 d b = σ d b := fun d b q => by rw [e1, up_c (by omega), up_c (by omega), up_c (by omega), up_c (by omega), up_c (by omega)]
  obtain ⟨ρ1, e2⟩ : ∃ z, z = xUp (xUp (xUp (xUp (xUp ρ 85 12 0) 85 17 0) 85 18 (nI (A 0 0))) 85 19 (nI (A 0 1))) 85 20 (nI (A 0 2)) := ⟨_, rfl⟩
  have f2 : ∀ d b, ¬ (d = 85 ∧ 12 ≤ b ∧ b ≤ 20) → ρ1 d b = ρ d b := fun d b q => by rw [e2, up_c (by omega), up_c (by omega), up_c (by omega), up_c (by omega), up_c (by omega)]
  have hM1 : TxM n t ρ1 := hM.eq (fun k => f2 _ _ (by omega)) (f2 _ _ (by omega))
  obtain ⟨S, E, k, x, hT⟩ := tk_ex (t := t) (Nat.zero_le n)
  obtain ⟨ρ2, g1, g2, g3, g4, g5, g6⟩ := looks_m hN hM1 (by rw [e2, up_c (by omega), up_c (by omega), up_c (by omega), up_c (by omega), up_s]; rfl) hT
  have hM2 : TxM n t ρ2 := hM1.eq (fun k => g6 _ _ (by omega)) (g6 _ _ (by omega))
  have eM : fX10_reads (N + 1) ρ = fX10_reads_L46 (N + 1) rkF rkF rkF rkT (N + 1) 1 ρ2 := by
    unfold fX10_reads
    rw [xLet_e, xLet_e, x098, gd_t, c0, up_c (by omega), up_c (by omega), g.1, xLet_e, x198, gd_t, c1, up_c (by omega), up_c (by omega), up_c (by omega), g.2.1, xLet_e, x298, gd_t, c2, up_c (by omega), up_c (by omega), up_c (by omega), up_c (by omega), g.2.2, xLet_e, ← e2, g1, xB_s]
    rfl
  have hC1 : TxC n t σ1 := hC.eq (fun k => f1 _ _ (by omega)) (f1 _ _ (by omega))
  rw [eC, eM]
  have r := read_cm (N := N + 1) hN 13 0 0 A σ1 ρ2 N N rfl (by omega) (by omega) (Nat.zero_le n) hA hC1 (by rw [e1, up_s]; rfl) ⟨by rw [e1, up_c (by omega), up_c (by omega), up_c (by omega), up_c (by omega), up_s], by rw [e1, up_c (by omega), up_c (by omega), up_c (by omega), up_s], by rw [e1, up_c (by omega), up_c (by omega), up_s]⟩ hM2 ⟨S, E, k, x, hT, g2, g3, g4, g5⟩ (by rw [g6 _ _ (by omega), e2, up_c (by omega), up_c (by omega), up_c (by omega), up_s]; rfl) ⟨by rw [g6 _ _ (by omega), e2, up_c (by omega), up_c (by omega), up_s], by rw [g6 _ _ (by omega), e2, up_c (by omega), up_s], by rw [g6 _ _ (by omega), e2, up_s]⟩
  rcases r with ⟨S6, τ, φ, a0, a1, a2, a3, a4, a5⟩ | ⟨L, τ, φ, a1, a2, a3, a4, a5, a6, a7, a8⟩
  · exact Or.inl ⟨S6, τ, φ, a0, fun d b z1 z2 z3 => (a1 d b z1 z2 z3).trans (f1 d b z1), fun d b z1 z2 => (a2 d b z1 z2).trans ((g6 d b (by omega)).trans (f2 d b z1)), a3, a4, a5⟩
  · exact Or.inr ⟨L, τ, φ, fun d b z1 z2 z3 => (a1 d b z1 z2 z3).trans (f1 d b z1), fun d b z1 z2 => (a2 d b z1 z2).trans ((g6 d b (by omega)).trans (f2 d b z1)), a3, a4, a5, a6, a7, a8⟩
theorem kp_fc {σ τ : XS} (h : FC 0 σ τ) : Kp σ τ := by
  intro c b q
  refine h c b (fun z => ?_) (fun z => ?_) (fun z => ?_)
  · obtain ⟨rfl, z1, z2⟩ := z
    have : ∀ b, b < 10 → 4 ≤ b → lv 11 b = false := by decide
    rw [this b (by omega) z1] at q
    exact absurd q (by decide)
  · obtain ⟨rfl, -⟩ := z
    exact absurd (q.symm.trans (show lv 13 b = false from rfl)) (by decide)
  · have : ∀ c, c < 29 → 15 ≤ c → ∀ b, lv c b = false := by
      intro c h1 h2 b
      rcases (show c = 15 ∨ c = 16 ∨ c = 17 ∨ c = 18 ∨ c = 19 ∨ c = 20 ∨ c = 21 ∨ c = 22 ∨ c = 23 ∨ c = 24 ∨ c = 25 ∨ c = 26 ∨ c = 27 ∨ c = 28 by omega) with rfl | rfl | rfl | rfl | rfl | rfl | rfl | rfl | rfl | rfl | rfl | rfl | rfl | rfl <;> rfl
    rw [this c (by omega) (by omega) b] at q
    exact absurd q (by decide)
theorem kp_fm {σ τ : XS} (h : FM 0 σ τ) : Kp σ τ := by
  intro c b q
  refine h c b (fun z => ?_) (fun z => ?_)
  · obtain ⟨rfl, z1, z2⟩ := z
    have : ∀ b, b < 21 → 12 ≤ b → lv 85 b = false := by decide
    rw [this b (by omega) z1] at q
    exact absurd q (by decide)
  · obtain ⟨rfl, -⟩ := z
    exact absurd (q.symm.trans (show lv 93 b = false from rfl)) (by decide)
theorem RA.txc (h : RA A σ) {n : Nat} {t : Nat → Nat} (h1 : n ≤ 160) (h2 : σ 11 3 = nI n) (h3 : ∀ i, i < n → t i < 256 ∧ σ 12 i = nI (t i) ∧ σ 92 i = nI (t i)) : TxC n t σ := ⟨h1, h2, fun i hi => ⟨(h3 i hi).1, (h3 i hi).2.1⟩⟩
/-- the class's reading ends -/
theorem read_ex (hN : 200 ≤ N) (h : RA A σ) : ∃ (n : Nat) (t : Nat → Nat) (r : Int32) (τ : XS), TxC n t σ ∧ TxM n t σ ∧ FC 0 σ τ ∧ fX7_read N σ = some (r, τ) := by
  obtain ⟨n, t, h1, h2, h3, h4⟩ := h.2.2.2.2.2.1
  have hC : TxC n t σ := ⟨h1, h2, fun i hi => ⟨(h4 i hi).1, (h4 i hi).2.1⟩⟩
  have hM : TxM n t σ := ⟨h1, h3, fun i hi => ⟨(h4 i hi).1, (h4 i hi).2.2⟩⟩
  rcases reads_cm hN ⟨h.w.2.2, h.a.2.2, h.c.2.2⟩ hC hM ⟨h.w.1, h.a.1, h.c.1⟩ ⟨h.w.2.1, h.a.2.1, h.c.2.1⟩ with ⟨S6, τ, φ, a0, a1, a2, a3, a4, a5⟩ | ⟨L, τ, φ, a1, a2, a3, a4, a5, a6, a7, a8⟩
  · exact ⟨n, t, _, τ, hC, hM, a1, a3⟩
  · exact ⟨n, t, _, τ, hC, hM, a1, a3⟩
end
theorem sim_fault {N : Nat} (hN : 200 ≤ N) : Sim2 N RR := by
  intro σ hR
  obtain ⟨A, h⟩ := id hR
  obtain ⟨n, t, r, τ, hC, hM, fc, e⟩ := read_ex hN h
  have hM2 : TxM n t τ := hM.eq (fun k => fc _ _ (by omega) (by omega) (by omega)) (fc _ _ (by omega) (by omega) (by omega))
  have g : ∀ b, τ 86 b = σ 86 b := fun b => fc _ _ (by omega) (by omega) (by omega)
  rcases reads_cm hN ⟨h.w.2.2, h.a.2.2, h.c.2.2⟩ hC hM2 ⟨h.w.1, h.a.1, h.c.1⟩ ⟨(g 0).trans h.w.2.1, (g 1).trans h.a.2.1, (g 2).trans h.c.2.1⟩ with ⟨S, τ', φ, a0, a1, a2, a3, a4, a5⟩ | ⟨L, τ', φ, a1, a2, a3, a4, a5, a6, a7, a8⟩
  · rw [e] at a3
    injection a3 with a3
    injection a3 with e1 e2
    subst e1 e2
    refine sim_kp hR (r := nI S) (f := fun σ => fX9_fault N σ) (g := fun σ => fX10_fault N σ) (σ1 := τ) (σ2 := φ) ?_ ?_ (kp_fc fc) (kp_fm a2)
    · show fX9_fault N σ = _
      unfold fX9_fault
      rw [e, xB_s]
    · show fX10_fault N τ = _
      unfold fX10_fault
      rw [a4, xB_s, if_pos rfl, a5]
  · rw [e] at a3
    injection a3 with a3
    injection a3 with e1 e2
    subst e1 e2
    refine sim_kp hR (r := -1) (f := fun σ => fX9_fault N σ) (g := fun σ => fX10_fault N σ) (σ1 := τ) (σ2 := φ) ?_ ?_ (kp_fc fc) (kp_fm a2)
    · show fX9_fault N σ = _
      unfold fX9_fault
      rw [e, xB_s]
    · show fX10_fault N τ = _
      unfold fX10_fault
      rw [a4, xB_s, if_neg (by decide)]
