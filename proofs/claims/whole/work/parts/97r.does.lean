/-! THE REFERENCE DOES A CLAUSE -/
theorem m4 (a : Nat) : 4 * nI a = nI (4 * a) := pk_mul 4 a
theorem m3 (a : Nat) : 3 * nI a = nI (3 * a) := pk_mul 3 a
theorem add2 (a : Nat) : nI a + 2 = nI (a + 2) := nI_add a 2
theorem add3 (a : Nat) : nI a + 3 = nI (a + 3) := nI_add a 3
theorem a6 (a : Nat) : 6 + nI a = nI (6 + a) := nI_add 6 a
theorem a42 (a : Nat) : 42 + nI a = nI (42 + a) := nI_add 42 a
theorem a46 (a : Nat) : 46 + nI a = nI (46 + a) := nI_add 46 a
theorem a64 (a : Nat) : 64 + nI a = nI (64 + a) := nI_add 64 a
theorem a67 (a : Nat) : 67 + nI a = nI (67 + a) := nI_add 67 a
theorem a73 (a : Nat) : 73 + nI a = nI (73 + a) := nI_add 73 a
theorem tkV_w : ∀ v, v < 4 → tkV v = v := by decide
theorem tkV_c : ∀ v, v < 10 → 4 ≤ v → tkV v = v + 2 := by decide
section
variable {N i v : Nat} {x : Nat → Nat} {A : Nat → Nat → Nat} {σ : XS}
theorem do_w (hM : TM A (σ 86)) (hq : clG (v, x) A) (h4 : v < 4) (hi : i < 14) (h93 : σ 93 (4 * i) = nI (tkV v)) (hx : ∀ a, a < clN v → σ 93 (4 * i + 1 + a) = nI (x a)) : ∃ τ, fX10_does N σ (nI i) = some (0, τ) ∧ TM (stA (v, x) A) (τ 86) ∧ ∀ c b, c ≠ 86 → τ c b = σ c b := by
  obtain ⟨s0, s00, s1, s2, s3, s4, s5⟩ := st_w (v := v) (x := x) (A := A) h4
  have hw : A 0 0 < 9 := by
    have : ctW v (A 0 0) ≤ 9 := hq.2.2.1
    unfold ctW at this
    rw [if_pos h4] at this
    omega
  rw [tkV_w v h4] at h93
  obtain ⟨g1, g2⟩ := clN_w v h4
  have x0 : σ 93 (4 * i + 1) = nI (x 0) := hx 0 (by omega)
  have x1 : σ 93 (4 * i + 2) = nI (x 1) := hx 1 (by omega)
  have hc' : ¬ nI 4 ≤ nI v := nI_ge h4 (by omega)
  have hc : ¬ (4 : Int32) ≤ nI v := hc'
  have a1 := hM.1
  have e : fX10_does N σ (nI i) = some (0, xUp (xUp (xUp (xUp (xUp σ 86 (6 + 4 * A 0 0) (nI v)) 86 (6 + 4 * A 0 0 + 1) (nI (x 0))) 86 (6 + 4 * A 0 0 + 2) (nI (if v = 3 then 1 else x 1))) 86 (6 + 4 * A 0 0 + 3) (nI (if v = 3 then x 1 else x 2))) 86 0 (nI (A 0 0 + 1))) := by
    unfold fX10_does fX10_does_J87
    by_cases z : v = 3
    · have hc3 : nI v = 3 := by rw [z]; rfl
      simp (disch := omega) only [m4, nI_1, add2, add3, a6, xin_t, gd_t, nI_clamp, xLetI_e, xLet_e, h93, x0, x1, if_neg hc, if_pos hc3, if_pos z, c0, xin098, a1, up_c, up_s]
      rfl
    · have hc3 : ¬ nI v = 3 := by rw [l3, nI_eq (by omega) (by omega)]; exact z
      have x2 : σ 93 (4 * i + 3) = nI (x 2) := hx 2 (by have := g2 z; omega)
      simp (disch := omega) only [m4, nI_1, add2, add3, a6, xin_t, gd_t, nI_clamp, xLetI_e, xLet_e, h93, x0, x1, x2, if_neg hc, if_neg hc3, if_neg z, c0, xin098, a1, up_c, up_s]
  obtain ⟨a1, a2, a3, a4, a5, a6, a7, a8, a9⟩ := hM
  refine ⟨_, e, ⟨?_, ?_, ?_, ?_, fun w hw' => ?_, fun p hp => ?_, fun a ha => ?_, fun c hc => ?_, fun r hr => ?_⟩, fun c b q => ?_⟩
  · rw [s0, up_s]
  · rw [s00 1 (by decide)]; simp (disch := omega) only [up_c]; exact a2
  · rw [s00 2 (by decide)]; simp (disch := omega) only [up_c]; exact a3
  · rw [s00 3 (by decide)]; simp (disch := omega) only [up_c]; exact a4
  · rw [s1, s2, s3, s4]
    by_cases z : w = A 0 0
    · rw [z, if_pos rfl, if_pos rfl, if_pos rfl, if_pos rfl]
      simp (disch := omega) only [up_c, up_s]
      exact ⟨trivial, trivial, trivial, trivial⟩
    · rw [if_neg z, if_neg z, if_neg z, if_neg z]
      have hw2 : w < A 0 0 := by rw [s0] at hw'; omega
      simp (disch := omega) only [up_c]
      exact a5 w hw2
  · rw [s5 5 p (by decide)]; simp (disch := omega) only [up_c]; exact a6 p hp
  · rw [s5 6 a (by decide), s5 7 a (by decide)]; simp (disch := omega) only [up_c]
    exact a7 a (by rw [s00 1 (by decide)] at ha; exact ha)
  · rw [s5 8 c (by decide)]; simp (disch := omega) only [up_c]
    exact a8 c (by rw [s00 2 (by decide)] at hc; exact hc)
  · rw [s5 9 r (by decide)]; simp (disch := omega) only [up_c]; exact a9 r hr
  · simp (disch := omega) only [up_c]
theorem do_c (hM : TM A (σ 86)) (hq : clG (v, x) A) (h4 : 4 ≤ v) (h7 : v < 7) (hi : i < 14) (h93 : σ 93 (4 * i) = nI (tkV v)) : ∃ τ, fX10_does N σ (nI i) = some (0, τ) ∧ TM (stA (v, x) A) (τ 86) ∧ ∀ c b, c ≠ 86 → τ c b = σ c b := by
  obtain ⟨s0, s00, s8, sf⟩ := st_c (v := v) (x := x) (A := A) h4 h7
  have hw : A 0 2 < 3 := by
    have : ctC v (A 0 2) ≤ 3 := hq.2.2.2.2
    unfold ctC at this
    rw [if_pos ⟨h4, h7⟩] at this
    omega
  rw [tkV_c v (by omega) h4] at h93
  have hc' : nI 4 ≤ nI (v + 2) := nI_le (by omega) (by omega)
  have hc : (4 : Int32) ≤ nI (v + 2) := hc'
  have hd : ¬ nI (v + 2) = 4 := by rw [l4, nI_eq (by omega) (by omega)]; omega
  have he : ¬ nI (v + 2) = 5 := by rw [l5, nI_eq (by omega) (by omega)]; omega
  have hf' : ¬ nI 9 ≤ nI (v + 2) := nI_ge (by omega) (by omega)
  have hf : ¬ (9 : Int32) ≤ nI (v + 2) := hf'
  have es : nI (v + 2) - 6 = nI (v - 4) := by rw [l6, pk_sub (by omega)]; exact congrArg nI (by omega)
  have a1 := hM.2.2.1
  have e : fX10_does N σ (nI i) = some (0, xUp (xUp σ 86 (64 + A 0 2) (nI (v - 4))) 86 2 (nI (A 0 2 + 1))) := by
    unfold fX10_does
    simp (disch := omega) only [m4, nI_1, add2, a64, xin_t, gd_t, nI_clamp, xLetI_e, xLet_e, h93, if_pos hc, if_neg hd, if_neg he, if_neg hf, c2, xin298, a1, es, up_c, up_s]
  obtain ⟨a1, a2, a3, a4, a5, a6, a7, a8, a9⟩ := hM
  refine ⟨_, e, ⟨?_, ?_, ?_, ?_, fun w hw' => ?_, fun p hp => ?_, fun a ha => ?_, fun c hc => ?_, fun r hr => ?_⟩, fun c b q => ?_⟩
  · rw [s00 0 (by decide)]; simp (disch := omega) only [up_c]; exact a1
  · rw [s00 1 (by decide)]; simp (disch := omega) only [up_c]; exact a2
  · rw [s0, up_s]
  · rw [s00 3 (by decide)]; simp (disch := omega) only [up_c]; exact a4
  · have hw2 : w < A 0 0 := by rw [s00 0 (by decide)] at hw'; exact hw'
    have hn : A 0 0 ≤ 9 := by
      have : ctW v (A 0 0) ≤ 9 := hq.2.2.1
      unfold ctW at this
      rw [if_neg (by omega), if_neg (by omega)] at this
      exact this
    rw [sf 1 w (by decide) (by decide), sf 2 w (by decide) (by decide), sf 3 w (by decide) (by decide), sf 4 w (by decide) (by decide)]; simp (disch := omega) only [up_c]
    exact a5 w hw2
  · rw [sf 5 p (by decide) (by decide)]; simp (disch := omega) only [up_c]; exact a6 p hp
  · have ha2 : a < A 0 1 := by rw [s00 1 (by decide)] at ha; exact ha
    have hn : A 0 1 ≤ 6 := by
      have : ctA v (A 0 1) ≤ 6 := hq.2.2.2.1
      unfold ctA at this
      rw [if_neg (by omega), if_neg (by omega)] at this
      exact this
    rw [sf 6 a (by decide) (by decide), sf 7 a (by decide) (by decide)]; simp (disch := omega) only [up_c]
    exact a7 a ha2
  · rw [s8]
    by_cases z : c = A 0 2
    · rw [z, if_pos rfl]; simp (disch := omega) only [up_c, up_s]
    · have hc2 : c < A 0 2 := by rw [s0] at hc; omega
      rw [if_neg z]; simp (disch := omega) only [up_c]
      exact a8 c hc2
  · rw [sf 9 r (by decide) (by decide)]; simp (disch := omega) only [up_c]; exact a9 r hr
  · simp (disch := omega) only [up_c]
/-- one place of the row becomes other, none that clauses told but this -/
theorem do_m (hM : TM A (σ 86)) (h4 : 7 ≤ v) (h7 : v < 10) (hi : i < 14) (h93 : σ 93 (4 * i) = nI (tkV v)) : ∃ τ, fX10_does N σ (nI i) = some (0, τ) ∧ TM (stA (v, x) A) (τ 86) ∧ ∀ c b, c ≠ 86 → τ c b = σ c b := by
  obtain ⟨s0, s00, sf⟩ := st_m (v := v) (x := x) (A := A) h4 h7
  rw [tkV_c v (by omega) (by omega)] at h93
  have hc' : nI 4 ≤ nI (v + 2) := nI_le (by omega) (by omega)
  have hc : (4 : Int32) ≤ nI (v + 2) := hc'
  have hd : ¬ nI (v + 2) = 4 := by rw [l4, nI_eq (by omega) (by omega)]; omega
  have he : ¬ nI (v + 2) = 5 := by rw [l5, nI_eq (by omega) (by omega)]; omega
  have hf' : nI 9 ≤ nI (v + 2) := nI_le (by omega) (by omega)
  have hf : (9 : Int32) ≤ nI (v + 2) := hf'
  have hg' : ¬ nI 12 ≤ nI (v + 2) := nI_ge (by omega) (by omega)
  have hg : ¬ (12 : Int32) ≤ nI (v + 2) := hg'
  have es : nI (v + 2) - 9 = nI (v - 7) := by rw [show (9 : Int32) = nI 9 from rfl, pk_sub (by omega)]; exact congrArg nI (by omega)
  have e : fX10_does N σ (nI i) = some (0, xUp σ 86 3 (nI (v - 7))) := by
    unfold fX10_does
    simp (disch := omega) only [m4, nI_1, add2, xin_t, gd_t, nI_clamp, xLetI_e, xLet_e, h93, if_pos hc, if_neg hd, if_neg he, if_pos hf, if_neg hg, c3, xin398, es]
  obtain ⟨a1, a2, a3, a4, a5, a6, a7, a8, a9⟩ := hM
  refine ⟨_, e, ⟨?_, ?_, ?_, ?_, fun w hw' => ?_, fun p hp => ?_, fun a ha => ?_, fun c hc => ?_, fun r hr => ?_⟩, fun c b q => ?_⟩
  · rw [s00 0 (by decide)]; simp (disch := omega) only [up_c]; exact a1
  · rw [s00 1 (by decide)]; simp (disch := omega) only [up_c]; exact a2
  · rw [s00 2 (by decide)]; simp (disch := omega) only [up_c]; exact a3
  · rw [s0, up_s]
  · rw [sf 1 w (by decide), sf 2 w (by decide), sf 3 w (by decide), sf 4 w (by decide)]; simp (disch := omega) only [up_c]
    exact a5 w (by rw [s00 0 (by decide)] at hw'; exact hw')
  · rw [sf 5 p (by decide)]; simp (disch := omega) only [up_c]; exact a6 p hp
  · rw [sf 6 a (by decide), sf 7 a (by decide)]; simp (disch := omega) only [up_c]
    exact a7 a (by rw [s00 1 (by decide)] at ha; exact ha)
  · rw [sf 8 c (by decide)]; simp (disch := omega) only [up_c]
    exact a8 c (by rw [s00 2 (by decide)] at hc; exact hc)
  · rw [sf 9 r (by decide)]; simp (disch := omega) only [up_c]; exact a9 r hr
  · simp (disch := omega) only [up_c]
theorem empties_ex (hN : 200 ≤ N) : ∃ τ, fX10_empties N σ = some (0, τ) ∧ (∀ k, k < 98 → τ 86 k = nI (if 73 ≤ k ∧ k ≤ 78 then 3 else 0)) ∧ ∀ c b, c ≠ 86 → τ c b = σ c b := by
  have key : ∀ (d k m : Nat) (τ : XS), k + d = 98 → d < m → (∀ j, j < k → τ 86 j = nI (if 73 ≤ j ∧ j ≤ 78 then 3 else 0)) → (∀ c b, c ≠ 86 → τ c b = σ c b) → ∃ τ', fX10_empties_L2 N (fun m10 => some (0, m10)) m (nI k) τ = some (0, τ') ∧ (∀ k, k < 98 → τ' 86 k = nI (if 73 ≤ k ∧ k ≤ 78 then 3 else 0)) ∧ ∀ c b, c ≠ 86 → τ' c b = σ c b := by
    intro d
    induction d with
    | zero =>
      intro k m τ hk hm h1 h2
      obtain ⟨m, rfl⟩ : ∃ z, m = z + 1 := ⟨m - 1, by omega⟩
      rw [fX10_empties_L2, show (98 : Int32) = nI 98 from rfl, if_pos (nI_le (by omega) (by omega))]
      exact ⟨τ, rfl, fun j hj => h1 j (by omega), h2⟩
    | succ d ih =>
      intro k m τ hk hm h1 h2
      obtain ⟨m, rfl⟩ : ∃ z, m = z + 1 := ⟨m - 1, by omega⟩
      have e : fX10_empties_L2 N (fun m10 => some (0, m10)) (m + 1) (nI k) τ = fX10_empties_L2 N (fun m10 => some (0, m10)) m (nI (k + 1)) (xUp τ 86 k (nI (if 73 ≤ k ∧ k ≤ 78 then 3 else 0))) := by
        rw [fX10_empties_L2, show (98 : Int32) = nI 98 from rfl, if_neg (nI_ge (by omega) (by omega)), in_spec2 (lo := 73) (hi := 78) (nI 73) (nI 78) rfl rfl, xB_s, ite1]
        by_cases z : 73 ≤ k ∧ k ≤ 78
        · rw [if_pos ⟨nI_le z.1 (by omega), nI_le z.2 (by omega)⟩, xLet_e, nI_clamp (by omega), xin_t (by omega) (by omega), gd_t, nI_1, if_pos z]
          rfl
        · rw [if_neg (fun y => z ⟨(nI_leI (by omega) (by omega)).mp y.1, (nI_leI (by omega) (by omega)).mp y.2⟩), xLet_e, nI_clamp (by omega), xin_t (by omega) (by omega), gd_t, nI_1, if_neg z]
          rfl
      rw [e]
      refine ih (k + 1) m _ (by omega) (by omega) (fun j hj => ?_) (fun c b q => by rw [up_c (by omega)]; exact h2 c b q)
      by_cases z : j = k
      · rw [z, up_s]
      · rw [up_c (by omega)]; exact h1 j (by omega)
  unfold fX10_empties
  exact key 98 0 N σ (by omega) (by omega) (fun j hj => by omega) (fun _ _ _ => rfl)
theorem do_r (hN : 200 ≤ N) (hi : i < 14) (h93 : σ 93 (4 * i) = nI (tkV 10)) : ∃ τ, fX10_does N σ (nI i) = some (0, τ) ∧ TM (stA (10, x) A) (τ 86) ∧ ∀ c b, c ≠ 86 → τ c b = σ c b := by
  obtain ⟨s0, s5, s9, sf⟩ := st_r (x := x) (A := A)
  obtain ⟨τ, r1, r2, r3⟩ := empties_ex (N := N) (σ := σ) hN
  have h93 : σ 93 (4 * i) = 13 := h93
  have e : fX10_does N σ (nI i) = some (0, τ) := by
    unfold fX10_does
    simp (disch := omega) only [m4, nI_1, add2, xin_t, gd_t, nI_clamp, xLetI_e, xLet_e, h93, r1, xB_s]
    rfl
  refine ⟨τ, e, ⟨?_, ?_, ?_, ?_, fun w hw' => ?_, fun p hp => ?_, fun a ha => ?_, fun c hc => ?_, fun r hr => ?_⟩, r3⟩
  · rw [s0, r2 0 (by omega)]; rfl
  · rw [s0, r2 1 (by omega)]; rfl
  · rw [s0, r2 2 (by omega)]; rfl
  · rw [s0, r2 3 (by omega)]; rfl
  · rw [s0] at hw'; omega
  · rw [s5, r2 (42 + p) (by omega), if_neg (by omega)]
  · rw [s0] at ha; omega
  · rw [s0] at hc; omega
  · rw [s9, r2 (73 + r) (by omega), if_pos (by omega)]
theorem do_p (hM : TM A (σ 86)) (hA : A 0 0 ≤ 9 ∧ A 0 1 ≤ 6 ∧ A 0 2 ≤ 3) (hq : clG (11, x) A) (hi : i < 14) (h93 : σ 93 (4 * i) = nI (tkV 11)) (hx : ∀ a, a < 2 → σ 93 (4 * i + 1 + a) = nI (x a)) : ∃ τ, fX10_does N σ (nI i) = some (0, τ) ∧ TM (stA (11, x) A) (τ 86) ∧ ∀ c b, c ≠ 86 → τ c b = σ c b := by
  obtain ⟨s5, sf⟩ := st_p (x := x) (A := A)
  have b0 : 0 ≤ x 0 ∧ x 0 ≤ 3 := hq.2.1 0 (show 0 < clN 11 by decide)
  have h93 : σ 93 (4 * i) = 4 := h93
  have x0 : σ 93 (4 * i + 1) = nI (x 0) := hx 0 (by omega)
  have x1 : σ 93 (4 * i + 2) = nI (x 1) := hx 1 (by omega)
  have e : fX10_does N σ (nI i) = some (0, xUp σ 86 (42 + x 0) (nI (x 1))) := by
    unfold fX10_does
    simp (disch := omega) only [m4, nI_1, add2, xin_t, gd_t, nI_clamp, xLetI_e, xLet_e, h93, x0, x1, a42]
    rfl
  obtain ⟨a1, a2, a3, a4, a5, a6, a7, a8, a9⟩ := hM
  refine ⟨_, e, ⟨?_, ?_, ?_, ?_, fun w hw' => ?_, fun p hp => ?_, fun a ha => ?_, fun c hc => ?_, fun r hr => ?_⟩, fun c b q => ?_⟩
  · rw [sf 0 0 (by decide)]; simp (disch := omega) only [up_c]; exact a1
  · rw [sf 0 1 (by decide)]; simp (disch := omega) only [up_c]; exact a2
  · rw [sf 0 2 (by decide)]; simp (disch := omega) only [up_c]; exact a3
  · rw [sf 0 3 (by decide)]; simp (disch := omega) only [up_c]; exact a4
  · have hw2 : w < A 0 0 := by rw [sf 0 0 (by decide)] at hw'; exact hw'
    rw [sf 1 w (by decide), sf 2 w (by decide), sf 3 w (by decide), sf 4 w (by decide)]; simp (disch := omega) only [up_c]
    exact a5 w hw2
  · rw [s5]
    by_cases z : p = x 0
    · rw [z, if_pos rfl, up_s]
    · rw [if_neg z]; simp (disch := omega) only [up_c]
      exact a6 p hp
  · have ha2 : a < A 0 1 := by rw [sf 0 1 (by decide)] at ha; exact ha
    rw [sf 6 a (by decide), sf 7 a (by decide)]; simp (disch := omega) only [up_c]
    exact a7 a ha2
  · rw [sf 8 c (by decide)]; simp (disch := omega) only [up_c]
    exact a8 c (by rw [sf 0 2 (by decide)] at hc; exact hc)
  · rw [sf 9 r (by decide)]; simp (disch := omega) only [up_c]; exact a9 r hr
  · simp (disch := omega) only [up_c]
theorem do_a (hM : TM A (σ 86)) (hA : A 0 0 ≤ 9 ∧ A 0 1 ≤ 6 ∧ A 0 2 ≤ 3) (hq : clG (12, x) A) (hi : i < 14) (h93 : σ 93 (4 * i) = nI (tkV 12)) (hx : ∀ a, a < 2 → σ 93 (4 * i + 1 + a) = nI (x a)) : ∃ τ, fX10_does N σ (nI i) = some (0, τ) ∧ TM (stA (12, x) A) (τ 86) ∧ ∀ c b, c ≠ 86 → τ c b = σ c b := by
  obtain ⟨s0, s00, s6, s7, sf⟩ := st_a (x := x) (A := A)
  have hw : A 0 1 + 1 ≤ 6 := hq.2.2.2.1
  have h93 : σ 93 (4 * i) = 5 := h93
  have x0 : σ 93 (4 * i + 1) = nI (x 0) := hx 0 (by omega)
  have x1 : σ 93 (4 * i + 2) = nI (x 1) := hx 1 (by omega)
  have h1 := hM.2.1
  have e : fX10_does N σ (nI i) = some (0, xUp (xUp (xUp (xUp σ 86 (46 + 3 * A 0 1) (nI (x 0))) 86 (46 + 3 * A 0 1 + 1) (nI (x 1))) 86 (46 + 3 * A 0 1 + 2) 0) 86 1 (nI (A 0 1 + 1))) := by
    unfold fX10_does
    simp (disch := omega) only [m4, m3, nI_1, add2, a46, xin_t, gd_t, nI_clamp, xLetI_e, xLet_e, h93, x0, x1, c1, xin198, h1, up_c, up_s]
    rfl
  obtain ⟨a1, a2, a3, a4, a5, a6, a7, a8, a9⟩ := hM
  refine ⟨_, e, ⟨?_, ?_, ?_, ?_, fun w hw' => ?_, fun p hp => ?_, fun a ha => ?_, fun c hc => ?_, fun r hr => ?_⟩, fun c b q => ?_⟩
  · rw [s00 0 (by decide)]; simp (disch := omega) only [up_c]; exact a1
  · rw [s0, up_s]
  · rw [s00 2 (by decide)]; simp (disch := omega) only [up_c]; exact a3
  · rw [s00 3 (by decide)]; simp (disch := omega) only [up_c]; exact a4
  · have hw2 : w < A 0 0 := by rw [s00 0 (by decide)] at hw'; exact hw'
    rw [sf 1 w (by decide) (by decide) (by decide), sf 2 w (by decide) (by decide) (by decide), sf 3 w (by decide) (by decide) (by decide), sf 4 w (by decide) (by decide) (by decide)]; simp (disch := omega) only [up_c]
    exact a5 w hw2
  · rw [sf 5 p (by decide) (by decide) (by decide)]; simp (disch := omega) only [up_c]; exact a6 p hp
  · rw [s6, s7]
    by_cases z : a = A 0 1
    · rw [z, if_pos rfl, if_pos rfl]; simp (disch := omega) only [up_c, up_s]
      exact ⟨trivial, trivial⟩
    · have ha2 : a < A 0 1 := by rw [s0] at ha; omega
      rw [if_neg z, if_neg z]; simp (disch := omega) only [up_c]
      exact a7 a ha2
  · have hc2 : c < A 0 2 := by rw [s00 2 (by decide)] at hc; exact hc
    rw [sf 8 c (by decide) (by decide) (by decide)]; simp (disch := omega) only [up_c]
    exact a8 c hc2
  · rw [sf 9 r (by decide) (by decide) (by decide)]; simp (disch := omega) only [up_c]; exact a9 r hr
  · simp (disch := omega) only [up_c]
theorem do_u (hM : TM A (σ 86)) (hA : A 0 0 ≤ 9 ∧ A 0 1 ≤ 6 ∧ A 0 2 ≤ 3) (hq : clG (13, x) A) (hi : i < 14) (h93 : σ 93 (4 * i) = nI (tkV 13)) (hx : ∀ a, a < 2 → σ 93 (4 * i + 1 + a) = nI (x a)) : ∃ τ, fX10_does N σ (nI i) = some (0, τ) ∧ TM (stA (13, x) A) (τ 86) ∧ ∀ c b, c ≠ 86 → τ c b = σ c b := by
  obtain ⟨s9, sf⟩ := st_u (x := x) (A := A)
  have b0 : 0 ≤ x 0 ∧ x 0 ≤ 5 := hq.2.1 0 (show 0 < clN 13 by decide)
  have h93 : σ 93 (4 * i) = 12 := h93
  have x0 : σ 93 (4 * i + 1) = nI (x 0) := hx 0 (by omega)
  have x1 : σ 93 (4 * i + 2) = nI (x 1) := hx 1 (by omega)
  have e : fX10_does N σ (nI i) = some (0, xUp σ 86 (73 + x 0) (nI (x 1))) := by
    unfold fX10_does
    simp (disch := omega) only [m4, nI_1, add2, xin_t, gd_t, nI_clamp, xLetI_e, xLet_e, h93, x0, x1, a73]
    rfl
  obtain ⟨a1, a2, a3, a4, a5, a6, a7, a8, a9⟩ := hM
  refine ⟨_, e, ⟨?_, ?_, ?_, ?_, fun w hw' => ?_, fun p hp => ?_, fun a ha => ?_, fun c hc => ?_, fun r hr => ?_⟩, fun c b q => ?_⟩
  · rw [sf 0 0 (by decide)]; simp (disch := omega) only [up_c]; exact a1
  · rw [sf 0 1 (by decide)]; simp (disch := omega) only [up_c]; exact a2
  · rw [sf 0 2 (by decide)]; simp (disch := omega) only [up_c]; exact a3
  · rw [sf 0 3 (by decide)]; simp (disch := omega) only [up_c]; exact a4
  · have hw2 : w < A 0 0 := by rw [sf 0 0 (by decide)] at hw'; exact hw'
    rw [sf 1 w (by decide), sf 2 w (by decide), sf 3 w (by decide), sf 4 w (by decide)]; simp (disch := omega) only [up_c]
    exact a5 w hw2
  · rw [sf 5 p (by decide)]; simp (disch := omega) only [up_c]; exact a6 p hp
  · have ha2 : a < A 0 1 := by rw [sf 0 1 (by decide)] at ha; exact ha
    rw [sf 6 a (by decide), sf 7 a (by decide)]; simp (disch := omega) only [up_c]
    exact a7 a ha2
  · have hc2 : c < A 0 2 := by rw [sf 0 2 (by decide)] at hc; exact hc
    rw [sf 8 c (by decide)]; simp (disch := omega) only [up_c]
    exact a8 c hc2
  · rw [s9]
    by_cases z : r = x 0
    · rw [z, if_pos rfl, up_s]
    · rw [if_neg z]; simp (disch := omega) only [up_c]
      exact a9 r hr
  · simp (disch := omega) only [up_c]
/-- the reference does a clause -/
theorem does_m (hN : 200 ≤ N) (hM : TM A (σ 86)) (hA : A 0 0 ≤ 9 ∧ A 0 1 ≤ 6 ∧ A 0 2 ≤ 3) (hq : clG (v, x) A) (hi : i < 14) (h93 : σ 93 (4 * i) = nI (tkV v)) (hx : ∀ a, a < clN v → σ 93 (4 * i + 1 + a) = nI (x a)) : ∃ τ, fX10_does N σ (nI i) = some (0, τ) ∧ TM (stA (v, x) A) (τ 86) ∧ ∀ c b, c ≠ 86 → τ c b = σ c b := by
  have hv : v < 14 := hq.1
  by_cases h1 : v < 4
  · exact do_w hM hq h1 hi h93 hx
  by_cases h2 : v < 7
  · exact do_c hM hq (by omega) h2 hi h93
  by_cases h3 : v < 10
  · exact do_m hM (by omega) h3 hi h93
  rcases (show v = 10 ∨ v = 11 ∨ v = 12 ∨ v = 13 by omega) with rfl | rfl | rfl | rfl
  · exact do_r hN hi h93
  · exact do_p hM hA hq hi h93 hx
  · exact do_a hM hA hq hi h93 hx
  · exact do_u hM hA hq hi h93 hx
/-- the reference does all clauses -/
theorem doall_m (hN : 200 ≤ N) {kk : XS → Option XO} {c : Nat} : ∀ (L : List (Nat × (Nat → Nat))) (i m : Nat) (A : Nat → Nat → Nat) (σ ρ τ0 : XS), i + L.length = c → c ≤ 14 → L.length < m → σ 85 17 = nI c → (∀ a b, a ≠ 86 → σ a b = ρ a b) → Tb i A L τ0 ρ → TW A → TM A (σ 86) → ∃ τ, fX10_customs_L12 N kk m (nI i) σ = kk τ ∧ TM (foA L A) (τ 86) ∧ ∀ a b, a ≠ 86 → τ a b = σ a b := by
  intro L
  induction L with
  | nil =>
    intro i m A σ ρ τ0 hc h14 hm h4 hf hT hW hM
    obtain ⟨m, rfl⟩ : ∃ z, m = z + 1 := ⟨m - 1, by omega⟩
    have e : i = c := by simpa using hc
    refine ⟨σ, ?_, hM, fun _ _ _ => rfl⟩
    rw [fX10_customs_L12, h4, if_pos (nI_le (by omega) (by omega))]
  | cons q L ih =>
    intro i m A σ ρ τ0 hc h14 hm h4 hf hT hW hM
    obtain ⟨m, rfl⟩ : ∃ z, m = z + 1 := ⟨m - 1, by omega⟩
    rw [List.length_cons] at hc hm
    obtain ⟨h1, -, ⟨h2, h3⟩, h5⟩ := hT
    obtain ⟨v, x⟩ := q
    obtain ⟨τ, t1, t2, t3⟩ := does_m (N := N) (x := x) hN hM ⟨hW.1, hW.2.1, hW.2.2.1⟩ h1 (i := i) (by omega) ((hf 93 _ (by omega)).trans h2) (fun a ha => (hf 93 _ (by omega)).trans (h3 a ha))
    obtain ⟨τ', r1, r2, r3⟩ := ih (i + 1) m (stA (v, x) A) τ ρ τ0 (by omega) h14 (by omega) ((t3 85 17 (by omega)).trans h4) (fun a b z => (t3 a b z).trans (hf a b z)) h5 (st_tw hW h1) t2
    refine ⟨τ', ?_, r2, fun a b z => (r3 a b z).trans (t3 a b z)⟩
    rw [fX10_customs_L12, h4, if_neg (nI_ge (by omega) (by omega)), t1, xB_s, nI_1]
    exact r1
end
