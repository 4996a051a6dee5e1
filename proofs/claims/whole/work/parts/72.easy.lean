/-! THE EASY CALLS -/
section
variable {N : Nat} {σ : XS} {A : Nat → Nat → Nat}
theorem RA.w (h : RA A σ) : σ 1 9 = nI (A 0 0) ∧ σ 86 0 = nI (A 0 0) ∧ A 0 0 ≤ 9 := ⟨h.2.1.1, h.2.2.1.2.2.2.2.1, h.1.1⟩
theorem RA.a (h : RA A σ) : σ 1 10 = nI (A 0 1) ∧ σ 86 1 = nI (A 0 1) ∧ A 0 1 ≤ 6 := ⟨h.2.1.2.1, h.2.2.1.2.2.2.2.2.1, h.1.2.1⟩
theorem RA.c (h : RA A σ) : σ 1 11 = nI (A 0 2) ∧ σ 86 2 = nI (A 0 2) ∧ A 0 2 ≤ 3 := ⟨h.2.1.2.2.1, h.2.2.1.2.2.2.2.2.2.1, h.1.2.2.1⟩
theorem RA.m (h : RA A σ) : σ 1 12 = nI (A 0 3) ∧ σ 86 3 = nI (A 0 3) ∧ A 0 3 ≤ 2 := ⟨h.2.1.2.2.2.1, h.2.2.1.2.2.2.2.2.2.2.1, h.1.2.2.2.1⟩
theorem RA.tm (h : RA A σ) : TM A (σ 86) := h.2.2.1.2.2.2.2
theorem RA.tc (h : RA A σ) : TC A σ := h.2.1
theorem RA.tw (h : RA A σ) : TW A := h.1
theorem RA.word (h : RA A σ) {w : Nat} (hw : w < A 0 0) : (σ 2 w = nI (A 1 w) ∧ σ 3 w = nI (A 2 w) ∧ σ 4 w = nI (A 3 w) ∧ σ 5 w = nI (A 4 w)) ∧ (σ 86 (6 + 4 * w) = nI (A 1 w) ∧ σ 86 (6 + 4 * w + 1) = nI (A 2 w) ∧ σ 86 (6 + 4 * w + 2) = nI (A 3 w) ∧ σ 86 (6 + 4 * w + 3) = nI (A 4 w)) ∧ (A 1 w ≤ 3 ∧ 1 ≤ A 2 w ∧ A 2 w ≤ 4 ∧ 1 ≤ A 3 w ∧ A 3 w ≤ A 2 w ∧ A 4 w ≤ 5) := ⟨h.2.1.2.2.2.2.1 w hw, h.tm.2.2.2.2.1 w hw, h.1.2.2.2.2.1 w hw⟩
theorem RA.port (h : RA A σ) {p : Nat} (hp : p < 4) : σ 6 p = nI (A 5 p) ∧ σ 86 (42 + p) = nI (A 5 p) ∧ A 5 p ≤ 5 := ⟨h.2.1.2.2.2.2.2.1 p hp, h.tm.2.2.2.2.2.1 p hp, h.1.2.2.2.2.2.1 p hp⟩
theorem RA.ware (h : RA A σ) {a : Nat} (ha : a < A 0 1) : (σ 7 a = nI (A 6 a) ∧ σ 8 a = nI (A 7 a)) ∧ (σ 86 (46 + 3 * a) = nI (A 6 a) ∧ σ 86 (46 + 3 * a + 1) = nI (A 7 a)) ∧ 1 ≤ A 6 a ∧ A 6 a ≤ 12 ∧ A 7 a ≤ 3 := ⟨h.2.1.2.2.2.2.2.2.1 a ha, h.tm.2.2.2.2.2.2.1 a ha, h.1.2.2.2.2.2.2.1 a ha⟩
theorem RA.clerk (h : RA A σ) {c : Nat} (hc : c < A 0 2) : σ 9 c = nI (A 8 c) ∧ σ 86 (64 + c) = nI (A 8 c) ∧ A 8 c ≤ 2 := ⟨h.2.1.2.2.2.2.2.2.2.1 c hc, h.tm.2.2.2.2.2.2.2.1 c hc, h.1.2.2.2.2.2.2.2.1 c hc⟩
theorem RA.can (h : RA A σ) {r : Nat} (hr : r < 6) : σ 10 r = nI (A 9 r) ∧ σ 86 (73 + r) = nI (A 9 r) ∧ A 9 r ≤ 9 := ⟨h.2.1.2.2.2.2.2.2.2.2 r hr, h.tm.2.2.2.2.2.2.2.2 r hr, h.1.2.2.2.2.2.2.2.2 r hr⟩
theorem RA.day (h : RA A σ) : ∃ d, d ≤ 99 ∧ σ 30 0 = nI d ∧ σ 86 4 = nI d := h.2.2.1.1
theorem RA.paid (h : RA A σ) : σ 30 1 = σ 86 5 := h.2.2.1.2.1
theorem RA.fate (h : RA A σ) {a : Nat} (ha : a < 6) : ∃ t, t ≤ 3 ∧ σ 30 (2 + a) = nI t ∧ σ 86 (48 + 3 * a) = nI t := h.2.2.1.2.2.1 a ha
theorem RA.used (h : RA A σ) {r : Nat} (hr : r < 6) : ∃ n, n ≤ A 9 r ∧ σ 30 (8 + r) = nI n ∧ σ 86 (67 + r) = nI n := h.2.2.1.2.2.2.1 r hr
theorem out_ne {x : Int32} {n k : Nat} (h : x < 0 ∨ nI n ≤ x) (hk : k < n) (hn : n < 2 ^ 31) : ¬ x = nI k := by
  rintro rfl
  rcases h with h | h
  · exact nI_pos (by omega) h
  · exact nI_ge hk hn h
theorem out_ex {x : Int32} {n : Nat} (h : x < 0 ∨ nI n ≤ x) (hn : n < 2 ^ 31) : ¬ ∃ j, j < n ∧ x = nI j := by
  rintro ⟨j, hj, e⟩
  exact out_ne h hj hn e
theorem isWord_c {n : Nat} (h : σ 1 9 = nI n) (hn : n < 2 ^ 31) {x : Int32} : fX8_isWord N σ x = some (if ∃ j, j < n ∧ x = nI j then 1 else 0, σ) := by unfold fX8_isWord; rw [h]; exact own_test hn
theorem isWare_c {n : Nat} (h : σ 1 10 = nI n) (hn : n < 2 ^ 31) {x : Int32} : fX8_isWare N σ x = some (if ∃ j, j < n ∧ x = nI j then 1 else 0, σ) := by unfold fX8_isWare; rw [h]; exact own_test hn
theorem isClerk_c {n : Nat} (h : σ 1 11 = nI n) (hn : n < 2 ^ 31) {x : Int32} : fX8_isClerk N σ x = some (if ∃ j, j < n ∧ x = nI j then 1 else 0, σ) := by unfold fX8_isClerk; rw [h]; exact own_test hn
theorem c0 : (0 : Int32).toNatClampNeg = 0 := rfl
theorem c1 : (1 : Int32).toNatClampNeg = 1 := rfl
theorem c2 : (2 : Int32).toNatClampNeg = 2 := rfl
theorem c3 : (3 : Int32).toNatClampNeg = 3 := rfl
theorem c4 : (4 : Int32).toNatClampNeg = 4 := rfl
theorem c5 : (5 : Int32).toNatClampNeg = 5 := rfl
theorem xin098 : xin 0 98 = true := rfl
theorem xin198 : xin 1 98 = true := rfl
theorem xin298 : xin 2 98 = true := rfl
theorem xin398 : xin 3 98 = true := rfl
theorem isWord_m {n : Nat} (h : σ 86 0 = nI n) (hn : n < 2 ^ 31) {x : Int32} : fX10_isWord N σ x = some (if ∃ j, j < n ∧ x = nI j then 1 else 0, σ) := by
  unfold fX10_isWord
  rw [xin098, gd_t, c0, h, ref_test hn, xB_s, gd_e bit01]
theorem isWare_m {n : Nat} (h : σ 86 1 = nI n) (hn : n < 2 ^ 31) {x : Int32} : fX10_isWare N σ x = some (if ∃ j, j < n ∧ x = nI j then 1 else 0, σ) := by
  unfold fX10_isWare
  rw [xin198, gd_t, c1, h, ref_test hn, xB_s, gd_e bit01]
theorem isClerk_m {n : Nat} (h : σ 86 2 = nI n) (hn : n < 2 ^ 31) {x : Int32} : fX10_isClerk N σ x = some (if ∃ j, j < n ∧ x = nI j then 1 else 0, σ) := by
  unfold fX10_isClerk
  rw [xin298, gd_t, c2, h, ref_test hn, xB_s, gd_e bit01]
/-- both known: the class, the reference -/
theorem areKnown_c {n m : Nat} (h1 : σ 1 10 = nI n) (h2 : σ 1 11 = nI m) (hn : n < 2 ^ 31) (hm : m < 2 ^ 31) {x y : Int32} : fX9_areKnown N σ x y = some (if (∃ j, j < n ∧ x = nI j) ∧ ∃ j, j < m ∧ y = nI j then 1 else 0, σ) := by
  unfold fX9_areKnown
  rw [isWare_c h1 hn, xB_s, ite1]
  by_cases q : ∃ j, j < n ∧ x = nI j
  · rw [if_pos q, isClerk_c h2 hm, xB_s, ite1]
    by_cases q2 : ∃ j, j < m ∧ y = nI j
    · rw [if_pos q2, if_pos ⟨q, q2⟩]
    · rw [if_neg q2, if_neg (fun z => q2 z.2)]
  · rw [if_neg q, if_neg (fun z => q z.1)]
theorem areBoth_m {n m : Nat} (h1 : σ 86 1 = nI n) (h2 : σ 86 2 = nI m) (hn : n < 2 ^ 31) (hm : m < 2 ^ 31) {x y : Int32} : fX10_areBoth N σ x y = some (if (∃ j, j < n ∧ x = nI j) ∧ ∃ j, j < m ∧ y = nI j then 1 else 0, σ) := by
  unfold fX10_areBoth
  rw [isWare_m h1 hn, xB_s, ite1]
  by_cases q : ∃ j, j < n ∧ x = nI j
  · rw [if_pos q, isClerk_m h2 hm, xB_s, ite1]
    by_cases q2 : ∃ j, j < m ∧ y = nI j
    · rw [if_pos q2, if_pos ⟨q, q2⟩]
    · rw [if_neg q2, if_neg (fun z => q2 z.2)]
  · rw [if_neg q, if_neg (fun z => q z.1)]
theorem at_n {r j len : Nat} (hl : xlen r = len) (hj : j < len) (hlen : len < 2 ^ 31) : fX9_at N σ r (nI j) = some (σ r j, σ) := by
  unfold fX9_at
  rw [hl, if_neg (nI_pos (by omega)), if_neg (nI_ge hj hlen), xin_t hj hlen, gd_t, nI_clamp (by omega)]
theorem fate_n {j : Nat} (hj : j < 6) : fX0_fateOf N σ (nI j) = some (σ 30 (2 + j), σ) := by
  unfold fX0_fateOf
  rw [l6, l2, if_neg (nI_pos (by omega)), if_neg (nI_ge hj (by decide)), nI_add, xin_t (by omega) (by decide), gd_t, nI_clamp (by omega)]
theorem uses_n {j : Nat} (hj : j < 6) : fX0_usesOf N σ (nI j) = some (σ 30 (8 + j), σ) := by
  unfold fX0_usesOf
  rw [l6, show (8 : Int32) = nI 8 from rfl, if_neg (nI_pos (by omega)), if_neg (nI_ge hj (by decide)), nI_add, xin_t (by omega) (by decide), gd_t, nI_clamp (by omega)]
end
theorem sim_clerk {N : Nat} : Sim6 N RR := by
  intro σ a hR
  obtain ⟨A, h⟩ := id hR
  obtain ⟨w1, w2, w3⟩ := h.c
  unfold fX9_clerk fX10_clerk
  by_cases q : ∃ j, j < A 0 2 ∧ a = nI j
  · obtain ⟨j, hj, rfl⟩ := id q
    obtain ⟨e1, e2, -⟩ := h.clerk hj
    refine sim_kp hR (r := nI (A 8 j)) (f := fun σ => xB (fX8_isClerk N σ (nI j)) _) (g := fun σ => xB (fX10_isClerk N σ (nI j)) _) (σ1 := σ) (σ2 := σ) ?_ ?_ Kp.rf Kp.rf
    · show xB _ _ = _
      rw [isClerk_c w1 (by omega), xB_s, ite1, if_pos q, at_n (len := 3) rfl (by omega) (by decide), xB_s, e1]
    · show xB _ _ = _
      rw [isClerk_m w2 (by omega), xB_s, ite1, if_pos q, show (64 : Int32) = nI 64 from rfl, nI_add, xin_t (by omega) (by decide), gd_t, nI_clamp (by omega), e2]
  · refine sim_kp hR (r := -2) (f := fun σ => xB (fX8_isClerk N σ a) _) (g := fun σ => xB (fX10_isClerk N σ a) _) (σ1 := σ) (σ2 := σ) ?_ ?_ Kp.rf Kp.rf
    · show xB _ _ = _
      rw [isClerk_c w1 (by omega), xB_s, ite1, if_neg q]
    · show xB _ _ = _
      rw [isClerk_m w2 (by omega), xB_s, ite1, if_neg q]
theorem sim_word {N : Nat} : Sim4 N RR := by
  intro σ a b hR
  obtain ⟨A, h⟩ := id hR
  obtain ⟨w1, w2, w3⟩ := h.w
  by_cases q : ∃ j, j < A 0 0 ∧ a = nI j
  · obtain ⟨j, hj, rfl⟩ := id q
    obtain ⟨⟨e1, e2, e3, e4⟩, ⟨g1, g2, g3, g4⟩, -⟩ := h.word hj
    rcases or_assoc.mpr (icase b 4 (by decide)) with hb | ⟨k, hk, rfl⟩
    · refine sim_kp hR (r := -3) (f := fun σ => fX9_word N σ (nI j) b) (g := fun σ => fX10_word N σ (nI j) b) (σ1 := σ) (σ2 := σ) ?_ ?_ Kp.rf Kp.rf
      · show fX9_word N σ (nI j) b = _
        unfold fX9_word
        rw [isWord_c w1 (by omega), xB_s, ite1, if_pos q, l0, l1, l2, l3, if_neg (out_ne hb (by decide) (by decide)), if_neg (out_ne hb (by decide) (by decide)), if_neg (out_ne hb (by decide) (by decide)), if_neg (out_ne hb (by decide) (by decide))]
      · show fX10_word N σ (nI j) b = _
        unfold fX10_word
        rw [isWord_m w2 (by omega), xB_s, ite1, if_pos q, show (3 : Int64) = (nI 4 - 1).toInt64 from rfl, ref_test (by decide), xB_s, ite1, if_neg (out_ex hb (by decide))]
    · refine sim_kp hR (r := σ (2 + k) j) (f := fun σ => fX9_word N σ (nI j) (nI k)) (g := fun σ => fX10_word N σ (nI j) (nI k)) (σ1 := σ) (σ2 := σ) ?_ ?_ Kp.rf Kp.rf
      · show fX9_word N σ (nI j) (nI k) = _
        unfold fX9_word
        rw [isWord_c w1 (by omega), xB_s, ite1, if_pos q, at_n (len := 9) rfl (by omega) (by decide), at_n (len := 9) rfl (by omega) (by decide), at_n (len := 9) rfl (by omega) (by decide), at_n (len := 9) rfl (by omega) (by decide)]
        rcases (show k = 0 ∨ k = 1 ∨ k = 2 ∨ k = 3 by omega) with rfl | rfl | rfl | rfl <;> rfl
      · show fX10_word N σ (nI j) (nI k) = _
        unfold fX10_word
        rw [isWord_m w2 (by omega), xB_s, ite1, if_pos q, show (3 : Int64) = (nI 4 - 1).toInt64 from rfl, ref_test (by decide), xB_s, ite1, if_pos ⟨k, hk, rfl⟩, l6, l4, pk_mul, nI_add, nI_add, xin_t (by omega) (by decide), gd_t, nI_clamp (by omega)]
        rcases (show k = 0 ∨ k = 1 ∨ k = 2 ∨ k = 3 by omega) with rfl | rfl | rfl | rfl
        · rw [show σ (2 + 0) j = _ from e1]; exact congrArg (fun z => some (z, σ)) g1
        · rw [show σ (2 + 1) j = _ from e2]; exact congrArg (fun z => some (z, σ)) g2
        · rw [show σ (2 + 2) j = _ from e3]; exact congrArg (fun z => some (z, σ)) g3
        · rw [show σ (2 + 3) j = _ from e4]; exact congrArg (fun z => some (z, σ)) g4
  · refine sim_kp hR (r := -2) (f := fun σ => fX9_word N σ a b) (g := fun σ => fX10_word N σ a b) (σ1 := σ) (σ2 := σ) ?_ ?_ Kp.rf Kp.rf
    · show fX9_word N σ a b = _
      unfold fX9_word
      rw [isWord_c w1 (by omega), xB_s, ite1, if_neg q]
    · show fX10_word N σ a b = _
      unfold fX10_word
      rw [isWord_m w2 (by omega), xB_s, ite1, if_neg q]
theorem sim_ware {N : Nat} : Sim5 N RR := by
  intro σ a b hR
  obtain ⟨A, h⟩ := id hR
  obtain ⟨w1, w2, w3⟩ := h.a
  by_cases q : ∃ j, j < A 0 1 ∧ a = nI j
  · obtain ⟨j, hj, rfl⟩ := id q
    obtain ⟨⟨e1, e2⟩, ⟨g1, g2⟩, -⟩ := h.ware hj
    obtain ⟨t, -, f1, f2⟩ := h.fate (a := j) (by omega)
    rcases or_assoc.mpr (icase b 3 (by decide)) with hb | ⟨k, hk, rfl⟩
    · refine sim_kp hR (r := -3) (f := fun σ => fX9_ware N σ (nI j) b) (g := fun σ => fX10_ware N σ (nI j) b) (σ1 := σ) (σ2 := σ) ?_ ?_ Kp.rf Kp.rf
      · show fX9_ware N σ (nI j) b = _
        unfold fX9_ware
        rw [isWare_c w1 (by omega), xB_s, ite1, if_pos q, l0, l1, l2, if_neg (out_ne hb (by decide) (by decide)), if_neg (out_ne hb (by decide) (by decide)), if_neg (out_ne hb (by decide) (by decide))]
      · show fX10_ware N σ (nI j) b = _
        unfold fX10_ware
        rw [isWare_m w2 (by omega), xB_s, ite1, if_pos q, show (2 : Int64) = (nI 3 - 1).toInt64 from rfl, ref_test (by decide), xB_s, ite1, if_neg (out_ex hb (by decide))]
    · have hm : ∀ v, σ 86 (46 + 3 * j + k) = v → fX10_ware N σ (nI j) (nI k) = some (v, σ) := by
        intro v hv
        unfold fX10_ware
        rw [isWare_m w2 (by omega), xB_s, ite1, if_pos q, show (2 : Int64) = (nI 3 - 1).toInt64 from rfl, ref_test (by decide), xB_s, ite1, if_pos ⟨k, hk, rfl⟩, l3, show (46 : Int32) = nI 46 from rfl, pk_mul, nI_add, nI_add, xin_t (by omega) (by decide), gd_t, nI_clamp (by omega), hv]
      have hc : ∀ v, fX9_ware N σ (nI j) (nI k) = some (v, σ) → fX10_ware N σ (nI j) (nI k) = some (v, σ) → ∃ (r : Int32) (σ1 σ2 : XS), fX9_ware N σ (nI j) (nI k) = some (r, σ1) ∧ fX10_ware N σ1 (nI j) (nI k) = some (r, σ2) ∧ RR σ2 := fun v h1 h2 => ⟨v, σ, σ, h1, h2, hR⟩
      rcases (show k = 0 ∨ k = 1 ∨ k = 2 by omega) with rfl | rfl | rfl
      · refine hc (nI (A 6 j)) ?_ (hm _ g1)
        unfold fX9_ware
        rw [isWare_c w1 (by omega), xB_s, ite1, if_pos q, if_pos (by decide), at_n (len := 6) rfl (by omega) (by decide), xB_s, e1]
      · refine hc (nI (A 7 j)) ?_ (hm _ g2)
        unfold fX9_ware
        rw [isWare_c w1 (by omega), xB_s, ite1, if_pos q, if_neg (by decide), if_pos (by decide), at_n (len := 6) rfl (by omega) (by decide), xB_s, e2]
      · refine hc (nI t) ?_ (hm _ (by rw [show 46 + 3 * j + 2 = 48 + 3 * j by omega]; exact f2))
        unfold fX9_ware
        rw [isWare_c w1 (by omega), xB_s, ite1, if_pos q, if_neg (by decide), if_neg (by decide), if_pos (by decide), fate_n (by omega), xB_s, f1]
  · refine sim_kp hR (r := -2) (f := fun σ => fX9_ware N σ a b) (g := fun σ => fX10_ware N σ a b) (σ1 := σ) (σ2 := σ) ?_ ?_ Kp.rf Kp.rf
    · show fX9_ware N σ a b = _
      unfold fX9_ware
      rw [isWare_c w1 (by omega), xB_s, ite1, if_neg q]
    · show fX10_ware N σ a b = _
      unfold fX10_ware
      rw [isWare_m w2 (by omega), xB_s, ite1, if_neg q]
