section
variable {N : Nat} {A : Nat → Nat → Nat} {σ : XS} {l : Nat → Nat} {n L r : Nat}
theorem scanS_f {i : Nat} (hi : scanS A l i = false) : ∀ j, scanS A l (i + j) = false := by
  intro j
  induction j with
  | zero => exact hi
  | succ j ih => show (scanS A l (i + j) && _) = false; rw [ih]; rfl
theorem rem2 {a : Nat} (h : a < 2 ^ 31) : nI a - nI a / 2 * 2 = nI (a % 2) := by rw [l2, pk_rem h (by decide) (by decide)]
theorem b2i_and {a b : Bool} : b2i (a && b) = if b2i a = 0 then 0 else b2i b := by cases a <;> cases b <;> rfl
theorem scan_m (hN : 10 ≤ N) (h : MLn A σ r n l) : fX10_isScanned N σ r (nI n) = some (b2i (scanS A l n), σ) := by
  obtain ⟨hM, hW, h1, h6, h3⟩ := id h
  have hm := hW.2.2.2.1
  have hs3 := hM.2.2.2.1
  unfold fX10_isScanned
  have key : ∀ (d i m : Nat), i + d = n → d < m → fX10_isScanned_L8 N (nI n) r (fun x14 m15 => gd (decide (x14 = 0) || decide (x14 = 1)) (some (x14, m15))) m (nI (sylS A l i)) (b2i (scanS A l i)) (nI i) σ = some (b2i (scanS A l n), σ) := by
    intro d
    induction d with
    | zero =>
      intro i m hi hm
      obtain ⟨m, rfl⟩ : ∃ q, m = q + 1 := ⟨m - 1, by omega⟩
      have e : i = n := by omega
      subst e
      rw [fX10_isScanned_L8, if_pos (nI_le (by omega) (by omega)), b2i01, gd_t]
    | succ d ih =>
      intro i m hi hm
      obtain ⟨m, rfl⟩ : ∃ q, m = q + 1 := ⟨m - 1, by omega⟩
      have hw := (h3 i (by omega)).1
      obtain ⟨k1, k2, k3, k4, k5, -⟩ := hW.2.2.2.2.1 _ hw
      have hw9 := hW.1
      have g := sylS_le hW i (fun j hj => (h3 j (by omega)).1)
      have hI := ih (i + 1) m (by omega) (by omega)
      have h94 : fX10_isScanned_J94 N (nI n) (nI (sylS A l i)) (nI i) r (fX10_isScanned_L8 N (nI n) r (fun x14 m15 => gd (decide (x14 = 0) || decide (x14 = 1)) (some (x14, m15))) m) σ = fX10_isScanned_L8 N (nI n) r (fun x14 m15 => gd (decide (x14 = 0) || decide (x14 = 1)) (some (x14, m15))) m (nI (sylS A l (i + 1))) 1 (nI (i + 1)) σ := by
        unfold fX10_isScanned_J94
        rw [xin_t (by omega) (by omega), gd_t, nI_clamp (by omega), (h3 i (by omega)).2, syl_m hM hW hw, xB_s, nI_add, nI_1]; rfl
      have h46 : ∀ t : Nat, t < 2 → fX10_isScanned_J46 N (nI n) (nI (sylS A l i)) (b2i (scanS A l i)) (nI i) (nI t) r (fX10_isScanned_L8 N (nI n) r (fun x14 m15 => gd (decide (x14 = 0) || decide (x14 = 1)) (some (x14, m15))) m) σ = fX10_isScanned_L8 N (nI n) r (fun x14 m15 => gd (decide (x14 = 0) || decide (x14 = 1)) (some (x14, m15))) m (nI (sylS A l (i + 1))) (b2i (scanS A l i && (decide (A 0 3 = 0) || decide (A 1 (l i) = 3) || (decide (t = 1) == decide (A 0 3 = 1))))) (nI (i + 1)) σ := by
        intro t ht
        unfold fX10_isScanned_J46
        rw [b2i0]
        have hz : (gd (xin (nI i) (xlen r)) (xB (fX10_syllables N σ (σ r (nI i).toNatClampNeg)) (fun y2 m3 => fX10_isScanned_L8 N (nI n) r (fun x14 m15 => gd (decide (x14 = 0) || decide (x14 = 1)) (some (x14, m15))) m (nI (sylS A l i) + y2) 0 (nI i + 1) m3))) = fX10_isScanned_L8 N (nI n) r (fun x14 m15 => gd (decide (x14 = 0) || decide (x14 = 1)) (some (x14, m15))) m (nI (sylS A l (i + 1))) 0 (nI (i + 1)) σ := by
          rw [xin_t (by omega) (by omega), gd_t, nI_clamp (by omega), (h3 i (by omega)).2, syl_m hM hW hw, xB_s, nI_add, nI_1]; rfl
        by_cases s : scanS A l i = true
        · rw [if_pos s, xin398, gd_t, c3, hs3, s, Bool.true_and]
          by_cases m0 : A 0 3 = 0
          · rw [m0, if_pos (by rfl), h94]; rfl
          · rw [if_neg (by rw [l0, nI_eq (by omega) (by omega)]; exact m0), xin_t (by omega) (by omega), gd_t, nI_clamp (by omega), (h3 i (by omega)).2, kindOf_m hM hW hw, xB_s, decide_eq_false m0]
            by_cases k : A 1 (l i) = 3
            · rw [k, if_pos (by rfl), h94]; rfl
            · rw [if_neg (by rw [l3, nI_eq (by omega) (by omega)]; exact k), gd_t, hs3, decide_eq_false k, Bool.false_or, Bool.false_or]
              have h91 : ∀ u : Nat, u < 2 → fX10_isScanned_J91 N (nI n) (nI (sylS A l i)) (nI i) (nI u) (nI t) r (fX10_isScanned_L8 N (nI n) r (fun x14 m15 => gd (decide (x14 = 0) || decide (x14 = 1)) (some (x14, m15))) m) σ = fX10_isScanned_L8 N (nI n) r (fun x14 m15 => gd (decide (x14 = 0) || decide (x14 = 1)) (some (x14, m15))) m (nI (sylS A l (i + 1))) (b2i (decide (t = u))) (nI (i + 1)) σ := by
                intro u hu
                unfold fX10_isScanned_J91
                by_cases q : t = u
                · rw [q, if_pos (by rfl), h94, decide_eq_true rfl]; rfl
                · rw [if_neg (by rw [nI_eq (by omega) (by omega)]; exact q), decide_eq_false q]
                  exact hz
              by_cases m1 : A 0 3 = 1
              · rw [m1, if_pos (by rfl)]
                refine (h91 1 (by decide)).trans ?_
                cases decide (t = 1) <;> rfl
              · rw [if_neg (by rw [l1, nI_eq (by omega) (by omega)]; exact m1), decide_eq_false m1]
                refine (h91 0 (by decide)).trans ?_
                rcases (show t = 0 ∨ t = 1 by omega) with rfl | rfl <;> rfl
        · rw [if_neg s, hz]
          rw [Bool.not_eq_true] at s
          rw [s]; rfl
      rw [fX10_isScanned_L8, if_neg (nI_ge (by omega) (by omega)), xin_t (by omega) (by omega), gd_t, nI_clamp (by omega), (h3 i (by omega)).2, l6, l4, pk_mul, nI_add, l2, nI_add, xin_t (by omega) (by decide), gd_t, nI_clamp (by omega), (hM.2.2.2.2.1 _ hw).2.2.1, nI_add, xLetI_e, gd_e (by decide), pk_rem (by omega) (by decide) (by decide)]
      have hfin : scanS A l (i + 1) = (scanS A l i && (decide (A 0 3 = 0) || decide (A 1 (l i) = 3) || (decide ((sylS A l i + A 3 (l i)) % 2 = 0) == decide (A 0 3 = 1)))) := rfl
      by_cases q : (sylS A l i + A 3 (l i)) % 2 = 0
      · rw [q, if_pos (by rfl)]
        rw [hfin, decide_eq_true q] at hI
        exact (h46 1 (by decide)).trans hI
      · rw [if_neg (by rw [l0, nI_eq (by omega) (by omega)]; exact q)]
        rw [hfin, decide_eq_false q] at hI
        exact (h46 0 (by decide)).trans hI
  exact key n 0 N (by omega) (by omega)
theorem rhymes_m (hM : TM A (σ 86)) (hW : TW A) {w p : Nat} (hw : w < A 0 0) (hp : p < 4) : fX10_rhymes N σ (nI w) (nI p) = some (b2i (chimS A w (A 5 p)), σ) := by
  obtain ⟨k1, -, -, -, -, k2⟩ := hW.2.2.2.2.1 w hw
  have h9 := hW.1
  have hp5 := hW.2.2.2.2.2.1 p hp
  unfold fX10_rhymes chimS
  rw [kindOf_m hM hW hw, xB_s]
  by_cases k : A 1 w = 2
  · rw [k, if_pos (by rfl)]; rfl
  · rw [if_neg (by rw [l2, nI_eq (by omega) (by omega)]; exact k), l6, l4, pk_mul, nI_add, l3, nI_add, xin_t (by omega) (by decide), gd_t, nI_clamp (by omega), show (42 : Int32) = nI 42 from rfl, nI_add, xin_t (by omega) (by decide), gd_t, nI_clamp (by omega), (hM.2.2.2.2.1 w hw).2.2.2, hM.2.2.2.2.2.1 p hp, decide_eq_false k, Bool.false_or]
    by_cases e : A 4 w = A 5 p
    · rw [e, if_pos (by rfl), decide_eq_true rfl]; rfl
    · rw [if_neg (by rw [nI_eq (by omega) (by omega)]; exact e), decide_eq_false e]; rfl
theorem passed_m (hN : 10 ≤ N) (h : MLn A σ r n l) {a c : Nat} (ha : a < A 0 1) (hc : c < A 0 2) : fX10_isPassed N σ r (nI n) (nI a) (nI c) = some (b2i (passS A l n a (A 8 c)), σ) := by
  obtain ⟨hM, hW, h1, h6, h3⟩ := id h
  obtain ⟨a1, a2, a3⟩ := hW.2.2.2.2.2.2.1 a ha
  obtain ⟨e1, e2⟩ := hM.2.2.2.2.2.2.1 a ha
  have hw6 := hW.2.1
  have hc3 := hW.2.2.1
  have hk := hW.2.2.2.2.2.2.2.1 c hc
  unfold fX10_isPassed passS
  by_cases n0 : n = 0
  · subst n0; rw [if_pos (by rfl)]; rfl
  · have hcnt : cntS A (A 8 c) l n < 100 := by
      have g := sylS_le hW n (fun j hj => (h3 j hj).1)
      unfold cntS
      split <;> omega
    have hJ : ∀ t : Bool, fX10_isPassed_J54 N (nI n) (nI a) (nI (A 8 c)) (b2i t) r σ = some (b2i (t && (decide (cntS A (A 8 c) l n = A 6 a) && scanS A l n)), σ) := by
      intro t
      unfold fX10_isPassed_J54
      rw [b2i0]
      cases t with
      | false => rw [if_neg (by decide)]; rfl
      | true =>
        rw [if_pos (by rfl), counted_m hN h (by omega), xB_s, show (46 : Int32) = nI 46 from rfl, l3, pk_mul, nI_add, xin_t (by omega) (by decide), gd_t, nI_clamp (by omega), e1, Bool.true_and]
        by_cases q : cntS A (A 8 c) l n = A 6 a
        · rw [q, if_pos (by rfl), scan_m hN h, xB_s, b2i0, decide_eq_true rfl, Bool.true_and]
          by_cases s : scanS A l n = true
          · rw [if_pos s, s]; rfl
          · rw [if_neg s]; rw [Bool.not_eq_true] at s; rw [s]; rfl
        · rw [if_neg (by rw [nI_eq (by omega) (by omega)]; exact q), decide_eq_false q]; rfl
    rw [if_neg (by rw [l0, nI_eq (by omega) (by omega)]; exact n0), show (64 : Int32) = nI 64 from rfl, nI_add, xin_t (by omega) (by decide), gd_t, nI_clamp (by omega), hM.2.2.2.2.2.2.2.1 c hc, xLetI_e, decide_eq_true n0, Bool.true_and]
    by_cases f : A 8 c = 2
    · rw [if_pos (by rw [f]; rfl)]
      unfold fX10_isPassed_J49
      rw [show (1 : Int32) = b2i true from rfl, hJ, decide_eq_true f, Bool.true_and, Bool.true_or, Bool.and_true]
    · rw [if_neg (by rw [l2, nI_eq (by omega) (by omega)]; exact f), l1, pk_sub (by omega), xin_t (by omega) (by omega), gd_t, show (46 : Int32) = nI 46 from rfl, l3, pk_mul, nI_add, nI_add, xin_t (by omega) (by decide), gd_t, nI_clamp (by omega), nI_clamp (by omega), e2, (h3 (n - 1) (by omega)).2, rhymes_m hM hW (h3 (n - 1) (by omega)).1 (by omega), xB_s, b2i0, decide_eq_false f, Bool.false_or]
      by_cases z : chimS A (l (n - 1)) (A 5 (A 7 a)) = true
      · rw [if_pos z]
        unfold fX10_isPassed_J49
        rw [show (1 : Int32) = b2i true from rfl, hJ, z, Bool.true_and, Bool.and_true]
      · rw [if_neg z, show (0 : Int32) = b2i false from rfl, hJ]
        rw [Bool.not_eq_true] at z
        rw [z, Bool.and_false, Bool.and_false]; rfl
end
theorem xlen90 : xlen 90 = 6 := rfl
theorem xlen94 : xlen 94 = 6 := rfl
/-- THE LINE itself on both sides -/
theorem RA.line {A : Nat → Nat → Nat} {σ : XS} (h : RA A σ) : ∃ (n : Nat) (l : Nat → Nat), n ≤ 6 ∧ σ 44 1 = nI n ∧ σ 85 6 = nI n ∧ CLn A σ 44 n l ∧ MLn A σ 90 n l := by
  obtain ⟨n, l, n1, n2, n3, n4⟩ := h.2.2.2.2.1
  exact ⟨n, l, n1, n2, n3, ⟨h.tc, h.tw, n2, n1, fun i hi => ⟨(n4 i hi).1, (n4 i hi).2.1⟩⟩, ⟨h.tm, h.tw, by rw [xlen90]; exact n1, by rw [xlen90]; exact Nat.le_refl _, fun i hi => ⟨(n4 i hi).1, (n4 i hi).2.2⟩⟩⟩
theorem sim_counts {N : Nat} (hN : 10 ≤ N) : Sim13 N RR := by
  intro σ a hR
  obtain ⟨A, h⟩ := id hR
  obtain ⟨w1, w2, w3⟩ := h.c
  obtain ⟨n, l, n1, n2, n3, hC, hM⟩ := h.line
  by_cases q : ∃ j, j < A 0 2 ∧ a = nI j
  · obtain ⟨j, hj, rfl⟩ := id q
    obtain ⟨e1, e2, e3⟩ := h.clerk hj
    refine sim_mk (f := fun σ => fX9_counts N σ (nI j)) (g := fun σ => fX10_counts N σ (nI j)) (nI (cntS A (A 8 j) l n)) σ σ ?_ ?_ hR
    · show fX9_counts N σ (nI j) = _
      unfold fX9_counts
      rw [isClerk_c w1 (by omega), xB_s, ite1, if_pos q, countBy_n hN hC hj, xB_s]
    · show fX10_counts N σ (nI j) = _
      unfold fX10_counts
      rw [isClerk_m w2 (by omega), xB_s, ite1, if_pos q, show (64 : Int32) = nI 64 from rfl, nI_add, xin_t (by omega) (by decide), gd_t, nI_clamp (by omega), e2, n3, counted_m hN hM (by omega), xB_s]
  · refine sim_mk (f := fun σ => fX9_counts N σ a) (g := fun σ => fX10_counts N σ a) (-2) σ σ ?_ ?_ hR
    · show fX9_counts N σ a = _
      unfold fX9_counts
      rw [isClerk_c w1 (by omega), xB_s, ite1, if_neg q]
    · show fX10_counts N σ a = _
      unfold fX10_counts
      rw [isClerk_m w2 (by omega), xB_s, ite1, if_neg q]
theorem bret {b : Bool} {σ : XS} : (if b = true then some ((1 : Int32), σ) else some (0, σ)) = some (b2i b, σ) := by cases b <;> rfl
theorem sim_scans {N : Nat} (hN : 10 ≤ N) : Sim14 N RR := by
  intro σ hR
  obtain ⟨A, h⟩ := id hR
  obtain ⟨n, l, n1, n2, n3, hC, hM⟩ := h.line
  refine sim_mk (f := fun σ => fX9_scans N σ) (g := fun σ => fX10_scans N σ) (b2i (scanS A l n)) σ σ ?_ ?_ hR
  · show fX9_scans N σ = _
    unfold fX9_scans
    rw [metre_n hN hC, xB_s, b2i0, bret]
  · show fX10_scans N σ = _
    unfold fX10_scans
    rw [n3, scan_m hN hM, xB_s, b2i0, bret]
theorem sim_passes {N : Nat} (hN : 10 ≤ N) : Sim15 N RR := by
  intro σ a b hR
  obtain ⟨A, h⟩ := id hR
  obtain ⟨w1, w2, w3⟩ := h.c
  obtain ⟨v1, v2, v3⟩ := h.a
  obtain ⟨n, l, n1, n2, n3, hC, hM⟩ := h.line
  by_cases q : (∃ j, j < A 0 1 ∧ a = nI j) ∧ ∃ j, j < A 0 2 ∧ b = nI j
  · obtain ⟨⟨j, hj, rfl⟩, k, hk, rfl⟩ := id q
    refine sim_mk (f := fun σ => fX9_passes N σ (nI j) (nI k)) (g := fun σ => fX10_passes N σ (nI j) (nI k)) (b2i (passS A l n j (A 8 k))) σ σ ?_ ?_ hR
    · show fX9_passes N σ (nI j) (nI k) = _
      unfold fX9_passes
      rw [areKnown_c v1 w1 (by omega) (by omega), xB_s, ite1, if_pos q, admits_n hN hC hj hk, xB_s, b2i0, bret]
    · show fX10_passes N σ (nI j) (nI k) = _
      unfold fX10_passes
      rw [areBoth_m v2 w2 (by omega) (by omega), xB_s, ite1, if_pos q, n3, passed_m hN hM hj hk, xB_s, b2i0, bret]
  · refine sim_mk (f := fun σ => fX9_passes N σ a b) (g := fun σ => fX10_passes N σ a b) (-2) σ σ ?_ ?_ hR
    · show fX9_passes N σ a b = _
      unfold fX9_passes
      rw [areKnown_c v1 w1 (by omega) (by omega), xB_s, ite1, if_neg q]
    · show fX10_passes N σ a b = _
      unfold fX10_passes
      rw [areBoth_m v2 w2 (by omega) (by omega), xB_s, ite1, if_neg q]
