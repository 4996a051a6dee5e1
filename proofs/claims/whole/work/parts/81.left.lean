/-! COUNT, LEFT -/
section
variable {N : Nat} {A : Nat → Nat → Nat} {σ : XS}
/-- how many keep P -/
def cn (P : Nat → Bool) : Nat → Nat → Nat → Nat
  | 0, _, acc => acc
  | d + 1, i, acc => cn P d (i + 1) (if P i = true then acc + 1 else acc)
theorem cn_le {P : Nat → Bool} : ∀ d i acc, cn P d i acc ≤ acc + d := by
  intro d
  induction d with
  | zero => intro i acc; exact Nat.le_refl _
  | succ d ih =>
    intro i acc
    show cn P d (i + 1) _ ≤ _
    have := ih (i + 1) (if P i = true then acc + 1 else acc)
    by_cases q : P i = true
    · rw [if_pos q] at this ⊢; omega
    · rw [if_neg q] at this ⊢; omega
def ftO (σ : XS) (a : Nat) : Nat := (σ 30 (2 + a)).toNatClampNeg
def usO (σ : XS) (r : Nat) : Nat := (σ 30 (8 + r)).toNatClampNeg
theorem RA.ft (h : RA A σ) {a : Nat} (ha : a < 6) : ftO σ a ≤ 3 ∧ σ 30 (2 + a) = nI (ftO σ a) ∧ σ 86 (48 + 3 * a) = nI (ftO σ a) := by
  obtain ⟨t, t1, t2, t3⟩ := h.fate ha
  have e : ftO σ a = t := by unfold ftO; rw [t2, nI_clamp (by omega)]
  rw [e]
  exact ⟨t1, t2, t3⟩
theorem RA.us (h : RA A σ) {r : Nat} (hr : r < 6) : usO σ r ≤ A 9 r ∧ A 9 r ≤ 9 ∧ σ 30 (8 + r) = nI (usO σ r) ∧ σ 86 (67 + r) = nI (usO σ r) ∧ σ 10 r = nI (A 9 r) ∧ σ 86 (73 + r) = nI (A 9 r) := by
  obtain ⟨t, t1, t2, t3⟩ := h.used hr
  obtain ⟨q1, q2, q3⟩ := h.can hr
  have e : usO σ r = t := by unfold usO; rw [t2, nI_clamp (by omega)]
  rw [e]
  exact ⟨t1, q3, t2, t3, q1, q2⟩
theorem z48 {a : Nat} : ((46 : Int32) + 3 * nI a) + 2 = nI (48 + 3 * a) := by
  rw [show (46 : Int32) = nI 46 from rfl, l3, l2, pk_mul, nI_add, nI_add]
  exact congrArg _ (by omega)
theorem z47 {a : Nat} : ((46 : Int32) + 3 * nI a) + 1 = nI (46 + 3 * a + 1) := by
  rw [show (46 : Int32) = nI 46 from rfl, l3, l1, pk_mul, nI_add, nI_add]
theorem z46 {a : Nat} : ((46 : Int32) + 3 * nI a) = nI (46 + 3 * a) := by
  rw [show (46 : Int32) = nI 46 from rfl, l3, pk_mul, nI_add]
theorem isz {a : Nat} (h : a < 2 ^ 31) {T1 T2 : Option XO} : (if nI a = (0 : Int32) then T1 else T2) = if a = 0 then T1 else T2 := by
  by_cases q : a = 0
  · rw [if_pos q, q]; exact if_pos rfl
  · rw [if_neg q, if_neg (by rw [l0, nI_eq h (by omega)]; exact q)]
theorem open_c (hN : 10 ≤ N) (h : RA A σ) : fX9_openWares N σ = some (bs (fun a => decide (ftO σ a = 0)) (A 0 1) 0 0, σ) := by
  obtain ⟨a1, a2, a3⟩ := h.a
  have key : ∀ (d i m : Nat) (acc : Int32), i + d = A 0 1 → d < m → fX9_openWares_L4 N (fun x5 m6 => some (x5, m6)) m acc (nI i) σ = some (bs (fun a => decide (ftO σ a = 0)) d i acc, σ) := by
    intro d
    induction d with
    | zero =>
      intro i m acc hi hm
      obtain ⟨m, rfl⟩ : ∃ q, m = q + 1 := ⟨m - 1, by omega⟩
      rw [fX9_openWares_L4, a1, if_pos (nI_le (by omega) (by omega))]; rfl
    | succ d ih =>
      intro i m acc hi hm
      obtain ⟨m, rfl⟩ : ∃ q, m = q + 1 := ⟨m - 1, by omega⟩
      obtain ⟨f1, f2, f3⟩ := h.ft (show i < 6 by omega)
      rw [fX9_openWares_L4, a1, if_neg (nI_ge (by omega) (by omega)), fate_n (by omega), xB_s, f2, isz (by omega)]
      by_cases q : ftO σ i = 0
      · rw [if_pos q, xLetI_e, nI_1, ih (i + 1) m _ (by omega) (by omega)]
        show _ = some (bs _ d (i + 1) (if decide (ftO σ i = 0) = true then _ else _), σ)
        rw [decide_eq_true q]; rfl
      · rw [if_neg q, nI_1, ih (i + 1) m _ (by omega) (by omega)]
        show _ = some (bs _ d (i + 1) (if decide (ftO σ i = 0) = true then _ else _), σ)
        rw [decide_eq_false q]; rfl
  exact key (A 0 1) 0 N 0 (by omega) (by omega)
theorem open_m (hN : 10 ≤ N) (h : RA A σ) {v : Int32} {k : Int32 → XS → Option XO} : fX10_count_L19 N v k N 0 0 σ = k (bs (fun a => decide (ftO σ a = 0)) (A 0 1) 0 0) σ := by
  obtain ⟨a1, a2, a3⟩ := h.a
  have key : ∀ (d i m : Nat) (acc : Int32), i + d = A 0 1 → d < m → fX10_count_L19 N v k m acc (nI i) σ = k (bs (fun a => decide (ftO σ a = 0)) d i acc) σ := by
    intro d
    induction d with
    | zero =>
      intro i m acc hi hm
      obtain ⟨m, rfl⟩ : ∃ q, m = q + 1 := ⟨m - 1, by omega⟩
      rw [fX10_count_L19, xin198, gd_t, c1, a2, if_pos (nI_le (by omega) (by omega))]; rfl
    | succ d ih =>
      intro i m acc hi hm
      obtain ⟨m, rfl⟩ : ∃ q, m = q + 1 := ⟨m - 1, by omega⟩
      obtain ⟨f1, f2, f3⟩ := h.ft (show i < 6 by omega)
      rw [fX10_count_L19, xin198, gd_t, c1, a2, if_neg (nI_ge (by omega) (by omega)), z48, xin_t (by omega) (by decide), gd_t, nI_clamp (by omega), f3, isz (by omega)]
      by_cases q : ftO σ i = 0
      · rw [if_pos q, xLetI_e, nI_1, ih (i + 1) m _ (by omega) (by omega)]
        show _ = k (bs _ d (i + 1) (if decide (ftO σ i = 0) = true then _ else _)) σ
        rw [decide_eq_true q]; rfl
      · rw [if_neg q, nI_1, or0, ih (i + 1) m _ (by omega) (by omega)]
        show _ = k (bs _ d (i + 1) (if decide (ftO σ i = 0) = true then _ else _)) σ
        rw [decide_eq_false q]; rfl
  exact key (A 0 1) 0 N 0 (by omega) (by omega)
end
theorem sim_count {N : Nat} (hN : 10 ≤ N) : Sim35 N RR := by
  intro σ a hR
  obtain ⟨A, h⟩ := id hR
  obtain ⟨w1, w2, w3⟩ := h.w
  obtain ⟨a1, a2, a3⟩ := h.a
  obtain ⟨c1', c2', c3'⟩ := h.c
  obtain ⟨m1, m2, m3⟩ := h.m
  obtain ⟨d, d1, d2, d3⟩ := h.day
  have pd := h.paid
  obtain ⟨h1, h2, h3, ⟨⟨u, nx, u1, u2, u3, u4, u5, u6⟩, u7⟩, ⟨ln, l, b1, b2, b3, b4⟩, ⟨tn, t, t1, t2, t3, t4⟩, hz, s, sm, cl, nu, e1, e2, e3, e4, e5, e6, e7⟩ := id h
  rcases or_assoc.mpr (icase a 11 (by decide)) with ha | ⟨j, hj, rfl⟩
  · refine sim_mk (f := fun σ => fX9_count N σ a) (g := fun σ => fX10_count N σ a) (-3) σ σ ?_ ?_ hR
    · show fX9_count N σ a = _
      unfold fX9_count
      rw [l0, l1, l2, l3, l4, l5, l6, show (7 : Int32) = nI 7 from rfl, show (8 : Int32) = nI 8 from rfl, show (9 : Int32) = nI 9 from rfl, show (10 : Int32) = nI 10 from rfl, if_neg (out_ne ha (by decide) (by decide)), if_neg (out_ne ha (by decide) (by decide)), if_neg (out_ne ha (by decide) (by decide)), if_neg (out_ne ha (by decide) (by decide)), if_neg (out_ne ha (by decide) (by decide)), if_neg (out_ne ha (by decide) (by decide)), if_neg (out_ne ha (by decide) (by decide)), if_neg (out_ne ha (by decide) (by decide)), if_neg (out_ne ha (by decide) (by decide)), if_neg (out_ne ha (by decide) (by decide)), if_neg (out_ne ha (by decide) (by decide))]
    · show fX10_count N σ a = _
      unfold fX10_count
      rw [show (10 : Int64) = (nI 11 - 1).toInt64 from rfl, ref_test (by decide), xB_s, ite1, if_neg (out_ex ha (by decide))]
  · have hm : fX10_count N σ (nI j) = if nI j = 8 then fX10_count_J91 N (nI j) (bs (fun a => decide (ftO σ a = 0)) (A 0 1) 0 0) (σ 85 8) σ else if nI j = 9 then fX10_count_J91 N (nI j) (bs (fun a => decide (ftO σ a = 0)) (A 0 1) 0 0) (σ 85 2) σ else fX10_count_J91 N (nI j) (bs (fun a => decide (ftO σ a = 0)) (A 0 1) 0 0) (σ 85 11) σ := by
      unfold fX10_count
      rw [show (10 : Int64) = (nI 11 - 1).toInt64 from rfl, ref_test (by decide), xB_s, ite1, if_pos ⟨j, hj, rfl⟩, open_m hN h]
    have hop := open_c hN h
    have go : ∀ r : Int32, fX9_count N σ (nI j) = some (r, σ) → fX10_count N σ (nI j) = some (r, σ) → ∃ (r : Int32) (σ1 σ2 : XS), fX9_count N σ (nI j) = some (r, σ1) ∧ fX10_count N σ1 (nI j) = some (r, σ2) ∧ RR σ2 := fun r g1 g2 => sim_mk (f := fun σ => fX9_count N σ (nI j)) (g := fun σ => fX10_count N σ (nI j)) r σ σ g1 g2 hR
    rcases (show j = 0 ∨ j = 1 ∨ j = 2 ∨ j = 3 ∨ j = 4 ∨ j = 5 ∨ j = 6 ∨ j = 7 ∨ j = 8 ∨ j = 9 ∨ j = 10 by omega) with rfl | rfl | rfl | rfl | rfl | rfl | rfl | rfl | rfl | rfl | rfl
    · exact go (nI (A 0 0)) (by show some (σ 1 9, σ) = _; rw [w1]) (by rw [hm]; show some (σ 86 0, σ) = _; rw [w2])
    · exact go (nI (A 0 1)) (by show some (σ 1 10, σ) = _; rw [a1]) (by rw [hm]; show some (σ 86 1, σ) = _; rw [a2])
    · exact go (nI (A 0 2)) (by show some (σ 1 11, σ) = _; rw [c1']) (by rw [hm]; show some (σ 86 2, σ) = _; rw [c2'])
    · exact go (nI (A 0 3)) (by show some (σ 1 12, σ) = _; rw [m1]) (by rw [hm]; show some (σ 86 3, σ) = _; rw [m2])
    · exact go (nI d) (by show some (σ 30 0, σ) = _; rw [d2]) (by rw [hm]; show some (σ 86 4, σ) = _; rw [d3])
    · exact go (σ 30 1) rfl (by rw [hm]; show some (σ 86 5, σ) = _; rw [pd])
    · exact go _ (by show xB (fX9_openWares N σ) (fun y14 m15 => some (y14, m15)) = _; rw [hop, xB_s]) (by rw [hm]; rfl)
    · exact go (nI ln) (by show some (σ 44 1, σ) = _; rw [b2]) (by rw [hm]; show some (σ 85 6, σ) = _; rw [b3])
    · exact go (nI sm) (by show some (σ 75 7, σ) = _; rw [e5]) (by rw [hm]; show some (σ 85 8, σ) = _; rw [e6])
    · exact go (nI u) (by show some (σ 29 5, σ) = _; rw [u3]) (by rw [hm]; show some (σ 85 2, σ) = _; rw [u4])
    · exact go (nI tn) (by show some (σ 11 3, σ) = _; rw [t2]) (by rw [hm]; show some (σ 85 11, σ) = _; rw [t3])
