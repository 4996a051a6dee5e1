/-! WHAT A CLAUSE DOES: the tables; the class obeys -/
section
variable {v : Nat} {x : Nat → Nat} {A : Nat → Nat → Nat}
theorem st_w (h : v < 4) : stA (v, x) A 0 0 = A 0 0 + 1 ∧ (∀ k, k ≠ 0 → stA (v, x) A 0 k = A 0 k) ∧ (∀ k, stA (v, x) A 1 k = if k = A 0 0 then v else A 1 k) ∧ (∀ k, stA (v, x) A 2 k = if k = A 0 0 then x 0 else A 2 k) ∧ (∀ k, stA (v, x) A 3 k = if k = A 0 0 then (if v = 3 then 1 else x 1) else A 3 k) ∧ (∀ k, stA (v, x) A 4 k = if k = A 0 0 then (if v = 3 then x 1 else x 2) else A 4 k) ∧ ∀ f k, 5 ≤ f → stA (v, x) A f k = A f k := by
  refine ⟨?_, fun k hk => ?_, fun k => ?_, fun k => ?_, fun k => ?_, fun k => ?_, fun f k hf => ?_⟩
  · simp [stA, h]
  · simp [stA, h, hk]
  · simp [stA, h]
  · simp [stA, h]
  · simp [stA, h]
  · simp [stA, h]
  · simp [stA, h, show f ≠ 0 by omega, show f ≠ 1 by omega, show f ≠ 2 by omega, show f ≠ 3 by omega, show f ≠ 4 by omega]
theorem st_c (h4 : 4 ≤ v) (h : v < 7) : stA (v, x) A 0 2 = A 0 2 + 1 ∧ (∀ k, k ≠ 2 → stA (v, x) A 0 k = A 0 k) ∧ (∀ k, stA (v, x) A 8 k = if k = A 0 2 then v - 4 else A 8 k) ∧ ∀ f k, f ≠ 0 → f ≠ 8 → stA (v, x) A f k = A f k := by
  have h' : ¬ v < 4 := by omega
  refine ⟨?_, fun k hk => ?_, fun k => ?_, fun f k hf hg => ?_⟩
  · simp [stA, h, h']
  · simp [stA, h, h', hk]
  · simp [stA, h, h']
  · simp [stA, h, h', hf, hg]
theorem st_m (h4 : 7 ≤ v) (h : v < 10) : stA (v, x) A 0 3 = v - 7 ∧ (∀ k, k ≠ 3 → stA (v, x) A 0 k = A 0 k) ∧ ∀ f k, f ≠ 0 → stA (v, x) A f k = A f k := by
  have h' : ¬ v < 4 := by omega
  have h'' : ¬ v < 7 := by omega
  refine ⟨?_, fun k hk => ?_, fun f k hf => ?_⟩
  · simp [stA, h, h', h'']
  · simp [stA, h, h', h'', hk]
  · simp [stA, h, h', h'', hf]
theorem st_r : (∀ k, stA (10, x) A 0 k = 0) ∧ (∀ k, stA (10, x) A 5 k = 0) ∧ (∀ k, stA (10, x) A 9 k = 3) ∧ ∀ f k, f ≠ 0 → f ≠ 5 → f ≠ 9 → stA (10, x) A f k = A f k := by
  refine ⟨fun k => ?_, fun k => ?_, fun k => ?_, fun f k h1 h2 h3 => ?_⟩
  · simp [stA]
  · simp [stA]
  · simp [stA]
  · simp [stA, h1, h2, h3]
theorem st_p : (∀ k, stA (11, x) A 5 k = if k = x 0 then x 1 else A 5 k) ∧ ∀ f k, f ≠ 5 → stA (11, x) A f k = A f k := by
  refine ⟨fun k => ?_, fun f k h1 => ?_⟩
  · simp [stA]
  · simp [stA, h1]
theorem st_a : stA (12, x) A 0 1 = A 0 1 + 1 ∧ (∀ k, k ≠ 1 → stA (12, x) A 0 k = A 0 k) ∧ (∀ k, stA (12, x) A 6 k = if k = A 0 1 then x 0 else A 6 k) ∧ (∀ k, stA (12, x) A 7 k = if k = A 0 1 then x 1 else A 7 k) ∧ ∀ f k, f ≠ 0 → f ≠ 6 → f ≠ 7 → stA (12, x) A f k = A f k := by
  refine ⟨?_, fun k hk => ?_, fun k => ?_, fun k => ?_, fun f k h1 h2 h3 => ?_⟩
  · simp [stA]
  · simp [stA, hk]
  · simp [stA]
  · simp [stA]
  · simp [stA, h1, h2, h3]
theorem st_u : (∀ k, stA (13, x) A 9 k = if k = x 0 then x 1 else A 9 k) ∧ ∀ f k, f ≠ 9 → stA (13, x) A f k = A f k := by
  refine ⟨fun k => ?_, fun f k h1 => ?_⟩
  · simp [stA]
  · simp [stA, h1]
/-- the bounds stay -/
theorem st_tw (hW : TW A) (hq : clG (v, x) A) : TW (stA (v, x) A) := by
  obtain ⟨w1, w2, w3, w4, w5, w6, w7, w8, w9⟩ := hW
  obtain ⟨hv, hb, n1, n2, n3⟩ := hq
  have hv : v < 14 := hv
  have hb : ∀ a, a < clN v → clA v a ≤ x a ∧ x a ≤ clB v a (x 0) := hb
  obtain ⟨e1, e2, e3⟩ := stA_w (q := (v, x)) (A := A) hv
  have n1 : stA (v, x) A 0 0 ≤ 9 := by rw [e1]; exact n1
  have n2 : stA (v, x) A 0 1 ≤ 6 := by rw [e2]; exact n2
  have n3 : stA (v, x) A 0 2 ≤ 3 := by rw [e3]; exact n3
  by_cases h1 : v < 4
  · obtain ⟨s0, s00, s1, s2, s3, s4, s5⟩ := st_w (v := v) (x := x) (A := A) h1
    refine ⟨n1, n2, n3, by rw [s00 3 (by decide)]; exact w4, fun w hw => ?_, fun p hp => by rw [s5 5 p (by decide)]; exact w6 p hp, fun a ha => ?_, fun c hc => ?_, fun r hr => by rw [s5 9 r (by decide)]; exact w9 r hr⟩
    · rw [s1, s2, s3, s4]
      by_cases z : w = A 0 0
      · rw [if_pos z, if_pos z, if_pos z, if_pos z]
        by_cases y : v = 3
        · subst y
          have b0 : 1 ≤ x 0 ∧ x 0 ≤ 4 := hb 0 (by decide)
          have b1 : 0 ≤ x 1 ∧ x 1 ≤ 5 := hb 1 (by decide)
          rw [if_pos rfl, if_pos rfl]
          omega
        · rw [if_neg y, if_neg y]
          rcases (show v = 0 ∨ v = 1 ∨ v = 2 by omega) with rfl | rfl | rfl
          · have b0 : 1 ≤ x 0 ∧ x 0 ≤ 4 := hb 0 (by decide)
            have b1 : 1 ≤ x 1 ∧ x 1 ≤ x 0 := hb 1 (by decide)
            have b2 : 0 ≤ x 2 ∧ x 2 ≤ 5 := hb 2 (by decide)
            omega
          · have b0 : 1 ≤ x 0 ∧ x 0 ≤ 4 := hb 0 (by decide)
            have b1 : 1 ≤ x 1 ∧ x 1 ≤ x 0 := hb 1 (by decide)
            have b2 : 0 ≤ x 2 ∧ x 2 ≤ 5 := hb 2 (by decide)
            omega
          · have b0 : 1 ≤ x 0 ∧ x 0 ≤ 4 := hb 0 (by decide)
            have b1 : 1 ≤ x 1 ∧ x 1 ≤ x 0 := hb 1 (by decide)
            have b2 : 0 ≤ x 2 ∧ x 2 ≤ 5 := hb 2 (by decide)
            omega
      · rw [if_neg z, if_neg z, if_neg z, if_neg z]
        exact w5 w (by rw [s0] at hw; omega)
    · rw [s5 6 a (by decide), s5 7 a (by decide)]
      exact w7 a (by rw [s00 1 (by decide)] at ha; exact ha)
    · rw [s5 8 c (by decide)]
      exact w8 c (by rw [s00 2 (by decide)] at hc; exact hc)
  by_cases h2 : v < 7
  · obtain ⟨s0, s00, s8, sf⟩ := st_c (v := v) (x := x) (A := A) (by omega) h2
    refine ⟨n1, n2, n3, by rw [s00 3 (by decide)]; exact w4, fun w hw => ?_, fun p hp => by rw [sf 5 p (by decide) (by decide)]; exact w6 p hp, fun a ha => ?_, fun c hc => ?_, fun r hr => by rw [sf 9 r (by decide) (by decide)]; exact w9 r hr⟩
    · rw [sf 1 w (by decide) (by decide), sf 2 w (by decide) (by decide), sf 3 w (by decide) (by decide), sf 4 w (by decide) (by decide)]
      exact w5 w (by rw [s00 0 (by decide)] at hw; exact hw)
    · rw [sf 6 a (by decide) (by decide), sf 7 a (by decide) (by decide)]
      exact w7 a (by rw [s00 1 (by decide)] at ha; exact ha)
    · rw [s8]
      by_cases z : c = A 0 2
      · rw [if_pos z]; omega
      · rw [if_neg z]; exact w8 c (by rw [s0] at hc; omega)
  by_cases h3 : v < 10
  · obtain ⟨s0, s00, sf⟩ := st_m (v := v) (x := x) (A := A) (by omega) h3
    refine ⟨n1, n2, n3, by rw [s0]; omega, fun w hw => ?_, fun p hp => by rw [sf 5 p (by decide)]; exact w6 p hp, fun a ha => ?_, fun c hc => ?_, fun r hr => by rw [sf 9 r (by decide)]; exact w9 r hr⟩
    · rw [sf 1 w (by decide), sf 2 w (by decide), sf 3 w (by decide), sf 4 w (by decide)]
      exact w5 w (by rw [s00 0 (by decide)] at hw; exact hw)
    · rw [sf 6 a (by decide), sf 7 a (by decide)]
      exact w7 a (by rw [s00 1 (by decide)] at ha; exact ha)
    · rw [sf 8 c (by decide)]
      exact w8 c (by rw [s00 2 (by decide)] at hc; exact hc)
  rcases (show v = 10 ∨ v = 11 ∨ v = 12 ∨ v = 13 by omega) with rfl | rfl | rfl | rfl
  · obtain ⟨s0, s5, s9, sf⟩ := st_r (x := x) (A := A)
    refine ⟨n1, n2, n3, by rw [s0]; omega, fun w hw => ?_, fun p hp => by rw [s5]; omega, fun a ha => ?_, fun c hc => ?_, fun r hr => by rw [s9]; omega⟩
    · rw [s0] at hw; omega
    · rw [s0] at ha; omega
    · rw [s0] at hc; omega
  · obtain ⟨s5, sf⟩ := st_p (x := x) (A := A)
    refine ⟨n1, n2, n3, by rw [sf 0 3 (by decide)]; exact w4, fun w hw => ?_, fun p hp => ?_, fun a ha => ?_, fun c hc => ?_, fun r hr => by rw [sf 9 r (by decide)]; exact w9 r hr⟩
    · rw [sf 1 w (by decide), sf 2 w (by decide), sf 3 w (by decide), sf 4 w (by decide)]
      exact w5 w (by rw [sf 0 0 (by decide)] at hw; exact hw)
    · rw [s5]
      have b1 : 0 ≤ x 1 ∧ x 1 ≤ 5 := hb 1 (by decide)
      by_cases z : p = x 0
      · rw [if_pos z]; omega
      · rw [if_neg z]; exact w6 p hp
    · rw [sf 6 a (by decide), sf 7 a (by decide)]
      exact w7 a (by rw [sf 0 1 (by decide)] at ha; exact ha)
    · rw [sf 8 c (by decide)]
      exact w8 c (by rw [sf 0 2 (by decide)] at hc; exact hc)
  · obtain ⟨s0, s00, s6, s7, sf⟩ := st_a (x := x) (A := A)
    refine ⟨n1, n2, n3, by rw [s00 3 (by decide)]; exact w4, fun w hw => ?_, fun p hp => by rw [sf 5 p (by decide) (by decide) (by decide)]; exact w6 p hp, fun a ha => ?_, fun c hc => ?_, fun r hr => by rw [sf 9 r (by decide) (by decide) (by decide)]; exact w9 r hr⟩
    · rw [sf 1 w (by decide) (by decide) (by decide), sf 2 w (by decide) (by decide) (by decide), sf 3 w (by decide) (by decide) (by decide), sf 4 w (by decide) (by decide) (by decide)]
      exact w5 w (by rw [s00 0 (by decide)] at hw; exact hw)
    · rw [s6, s7]
      have b0 : 1 ≤ x 0 ∧ x 0 ≤ 12 := hb 0 (by decide)
      have b1 : 0 ≤ x 1 ∧ x 1 ≤ 3 := hb 1 (by decide)
      by_cases z : a = A 0 1
      · rw [if_pos z, if_pos z]; omega
      · rw [if_neg z, if_neg z]; exact w7 a (by rw [s0] at ha; omega)
    · rw [sf 8 c (by decide) (by decide) (by decide)]
      exact w8 c (by rw [s00 2 (by decide)] at hc; exact hc)
  · obtain ⟨s9, sf⟩ := st_u (x := x) (A := A)
    refine ⟨n1, n2, n3, by rw [sf 0 3 (by decide)]; exact w4, fun w hw => ?_, fun p hp => by rw [sf 5 p (by decide)]; exact w6 p hp, fun a ha => ?_, fun c hc => ?_, fun r hr => ?_⟩
    · rw [sf 1 w (by decide), sf 2 w (by decide), sf 3 w (by decide), sf 4 w (by decide)]
      exact w5 w (by rw [sf 0 0 (by decide)] at hw; exact hw)
    · rw [sf 6 a (by decide), sf 7 a (by decide)]
      exact w7 a (by rw [sf 0 1 (by decide)] at ha; exact ha)
    · rw [sf 8 c (by decide)]
      exact w8 c (by rw [sf 0 2 (by decide)] at hc; exact hc)
    · rw [s9]
      have b1 : 0 ≤ x 1 ∧ x 1 ≤ 9 := hb 1 (by decide)
      by_cases z : r = x 0
      · rw [if_pos z]; omega
      · rw [if_neg z]; exact w9 r hr
end
/-- what is the same in both tables does the same -/
theorem clN_w : ∀ v, v < 4 → 2 ≤ clN v ∧ (v ≠ 3 → clN v = 3) := by decide
theorem clN_2 : ∀ v, v < 14 → 11 ≤ v → clN v = 2 := by decide
theorem stA_eq {v : Nat} {x y : Nat → Nat} {A : Nat → Nat → Nat} (hv : v < 14) (h : ∀ a, a < clN v → x a = y a) : stA (v, x) A = stA (v, y) A := by
  funext f k
  simp only [stA]
  by_cases h1 : v < 4
  · obtain ⟨g1, g2⟩ := clN_w v h1
    rw [if_pos h1, if_pos h1, h 0 (by omega), h 1 (by omega)]
    by_cases z : v = 3
    · simp only [if_pos z]
    · rw [h 2 (by have := g2 z; omega)]
  · rw [if_neg h1, if_neg h1]
    by_cases h2 : 11 ≤ v
    · have h3 := clN_2 v hv h2
      rw [h 0 (by omega), h 1 (by omega)]
    · by_cases h3 : v < 7
      · rw [if_pos h3, if_pos h3]
      · rw [if_neg h3, if_neg h3]
        by_cases h4 : v < 10
        · rw [if_pos h4, if_pos h4]
        · rw [if_neg h4, if_neg h4, if_pos (show v = 10 by omega), if_pos (show v = 10 by omega)]
