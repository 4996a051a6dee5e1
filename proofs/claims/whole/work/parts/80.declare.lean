/-! DECLARE -/
section
variable {N : Nat} {A : Nat → Nat → Nat} {σ : XS} {n : Nat} {l : Nat → Nat}
theorem wornBy_c (hC : TC A σ) (hW : TW A) {w : Nat} (hw : w < A 0 0) : fX8_rhymeWornBy N σ (nI w) = some (if A 1 w = 2 then -1 else nI (A 4 w), σ) := by
  obtain ⟨-, q2, q3, q4, q5, q6⟩ := hW.2.2.2.2.1 w hw
  have wb := hW.1
  have kb := (hW.2.2.2.2.1 w hw).1
  unfold fX8_rhymeWornBy
  rw [isWord_c hC.1 (by omega), xB_s, ite1, if_pos ⟨w, hw, rfl⟩, kind_at hC hW hw, xB_s, rhy_at hC hW hw]
  by_cases z : A 1 w = 2
  · rw [if_pos z, z, if_pos (by rfl)]
  · rw [if_neg z, if_neg (by rw [l2, nI_eq (by omega) (by omega)]; exact z), xB_s]
theorem worn_m (hM : TM A (σ 86)) (hW : TW A) {w n : Nat} (hw : w < A 0 0) (hu : σ 86 (67 + A 4 w) = nI n) (hn : n ≤ 9) : fX10_isWorn N σ (nI w) 86 67 = some (b2i (decide (A 1 w ≠ 2) && decide (A 9 (A 4 w) ≤ n)), σ) := by
  obtain ⟨q1, q2, q3, q4, q5, q6⟩ := hW.2.2.2.2.1 w hw
  have wb := hW.1
  obtain ⟨-, -, -, e4⟩ := hM.2.2.2.2.1 w hw
  have e9 := hM.2.2.2.2.2.2.2.2 (A 4 w) (by omega)
  have b9 := hW.2.2.2.2.2.2.2.2 (A 4 w) (by omega)
  have e : ((6 : Int32) + 4 * nI w) + 3 = nI (6 + 4 * w + 3) := by rw [l6, l4, l3, pk_mul, nI_add, nI_add]
  unfold fX10_isWorn
  rw [e, xin_t (by omega) (by decide), gd_t, nI_clamp (by omega), e4, xLetI_e, kindOf_m hM hW hw, xB_s]
  by_cases z : A 1 w = 2
  · rw [z, if_pos (by rfl)]; rfl
  · rw [if_neg (by rw [l2, nI_eq (by omega) (by omega)]; exact z), show (67 : Int32) = nI 67 from rfl, show (73 : Int32) = nI 73 from rfl, nI_add, nI_add, xin_t (n := xlen 86) (by show _ < 98; omega) (by decide), gd_t, xin_t (by omega) (by decide), gd_t, nI_clamp (by omega), nI_clamp (by omega), hu, e9, decide_eq_true z, Bool.true_and]
    by_cases y : n < A 9 (A 4 w)
    · rw [if_pos (nI_lt y (by omega)), decide_eq_false (by omega)]; rfl
    · rw [if_neg (nI_nlt (by omega) (by omega)), decide_eq_true (by omega)]; rfl
end
theorem ne1 {x : Nat} (h : x < 2 ^ 31) : ¬ nI x = (-1 : Int32) := by
  intro q
  have := nI_pos h
  rw [q] at this
  exact this (by decide)
theorem sim_declare {N : Nat} (hN : 1000 ≤ N) : Sim16 N RR := by
  intro σ a b hR
  obtain ⟨A, hA⟩ := id hR
  obtain ⟨h1, h2, h3, ⟨⟨u, nx, u1, u2, u3, u4, u5, u6⟩, u7⟩, h5, h6, h7⟩ := id hA
  obtain ⟨wa1, wa2, wa3⟩ := hA.a
  obtain ⟨wc1, wc2, wc3⟩ := hA.c
  obtain ⟨d, d1, d2, d3⟩ := hA.day
  by_cases hx : (∃ j, j < A 0 1 ∧ a = nI j) ∧ ∃ j, j < A 0 2 ∧ b = nI j
  · obtain ⟨⟨j, hj, rfl⟩, c, hc, rfl⟩ := id hx
    obtain ⟨t, t1, t2, t3⟩ := hA.fate (show j < 6 by omega)
    obtain ⟨⟨v1, -⟩, ⟨v2, -⟩, w1, w2, -⟩ := hA.ware hj
    have e3 : ((46 : Int32) + 3 * nI j) = nI (46 + 3 * j) := by rw [show (46 : Int32) = nI 46 from rfl, l3, pk_mul, nI_add]
    have e5 : ((46 : Int32) + 3 * nI j) + 2 = nI (48 + 3 * j) := by
      rw [e3, l2, nI_add]
      exact congrArg _ (by omega)
    have hcc : ∀ K : XS → Option XO, (∀ τ, K τ = xB (fX0_remember N τ) (fun _ m11 => xB (fX4_lastWord N m11 44) (fun y13 m14 => xB (fX8_rhymeWornBy N m14 y13) (fun y16 m17 => xB (fX8_admits N m17 44 (nI j) (nI c)) (fun y19 m20 => if y19 = 0 then xB (fX0_settle N m20 (nI j) 2 0) (fun y22 m23 => some (y22, m23)) else xB (fX0_usesOf N m20 y16) (fun y25 m26 => xB (fX8_isWorn N m26 y16 y25) (fun y28 m29 => if y28 = 0 then xB (fX0_use N m29 y16) (fun _ m32 => xB (fX9_at N m32 7 (nI j)) (fun y34 m35 => xB (fX0_settle N m35 (nI j) 1 y34) (fun y37 m38 => some (y37, m38)))) else xB (fX0_settle N m29 (nI j) 2 0) (fun y40 m41 => some (y40, m41))))))))) → fX9_declare N σ (nI j) (nI c) = if t = 0 then (if d = 99 then some (-5, σ) else K σ) else some (-4, σ) := by
      intro K hK
      rw [hK]
      unfold fX9_declare
      rw [areKnown_c wa1 wc1 (by omega) (by omega), xB_s, ite1, if_pos hx, fate_n (by omega), xB_s, t2, over_c d1 d2]
      by_cases z : t = 0
      · subst z
        rw [if_pos (by rfl), if_pos rfl, xB_s, b2i0]
        by_cases q : d = 99
        · rw [if_pos (decide_eq_true q), if_pos q]
        · rw [if_neg (by simpa using q), if_neg q]
      · rw [if_neg (by rw [l0, nI_eq (by omega) (by omega)]; exact z), if_neg z]
    have hm : ∀ τ : XS, τ 86 1 = nI (A 0 1) → τ 86 2 = nI (A 0 2) → τ 86 (48 + 3 * j) = nI t → τ 86 4 = nI d → fX10_declare N τ (nI j) (nI c) = if t = 0 then (if d = 99 then some (-5, τ) else xB (fX10_remembers N τ) (fun _ m5 => xB (fX10_isPassed N m5 90 (m5 85 6) (nI j) (nI c)) (fun y7 m8 => if y7 = 0 then fX10_declare_J94 N (nI j) m8 else gd (xin ((m8 85 6) - 1) 6) (xB (fX10_isWorn N m8 (m8 90 ((m8 85 6) - 1).toNatClampNeg) 86 67) (fun y23 m24 => if y23 = 0 then fX10_declare_J95 N (nI j) 1 m24 else fX10_declare_J94 N (nI j) m24))))) else some (-4, τ) := by
      intro τ q1 q1' q2 q3
      unfold fX10_declare
      rw [areBoth_m q1 q1' (by omega) (by omega), xB_s, ite1, if_pos hx, e5, xin_t (by omega) (by decide), nI_clamp (by omega), gd_t, q2, x498, gd_t, c4, q3]
      by_cases z : t = 0
      · subst z
        rw [if_pos (by rfl), if_pos rfl]
        by_cases q : d = 99
        · subst q
          rw [if_pos (by rfl), if_pos rfl]
        · rw [if_neg (by rw [show (99 : Int32) = nI 99 from rfl, nI_eq (by omega) (by omega)]; exact q), if_neg q]
      · rw [if_neg (by rw [l0, nI_eq (by omega) (by omega)]; exact z), if_neg z]
    have hcc := hcc _ (fun _ => rfl)
    by_cases z : t = 0
    · by_cases q : d = 99
      · refine sim_mk (f := fun σ => fX9_declare N σ (nI j) (nI c)) (g := fun σ => fX10_declare N σ (nI j) (nI c)) (-5) σ σ ?_ ?_ hR
        · show fX9_declare N σ (nI j) (nI c) = _
          rw [hcc, if_pos z, if_pos q]
        · show fX10_declare N σ (nI j) (nI c) = _
          rw [hm σ wa2 wc2 t3 d3, if_pos z, if_pos q]
      · obtain ⟨σ1, r1, r2, r3, r4, r5⟩ := rem_c (N := N) u1 u2 u3 u5
        obtain ⟨n, l, n1, n2, n3, n4, n5⟩ := hA.line
        have C1 : CLn A σ1 44 n l := ⟨h2.eq (fun c k g1 g2 => r5 _ _ (by omega) (by omega)), h1, (r5 _ _ (by omega) (by omega)).trans n2, n1, fun i hi => ⟨(n4.2.2.2.2 i hi).1, (r5 _ _ (by omega) (by omega)).trans (n4.2.2.2.2 i hi).2⟩⟩
        have ea : σ1 7 j = nI (A 6 j) := (r5 _ _ (by omega) (by omega)).trans v1
        have h30 : ∀ k, σ1 30 k = σ 30 k := fun k => r5 _ _ (by omega) (by omega)
        -- the reference, from whatever the class leaves
        have ref : ∀ τ : XS, (∀ c k, c ≠ 30 → τ c k = σ1 c k) → ∃ σ2, σ2 85 2 = nI (min (u + 1) 8) ∧ (∀ k, k < 98 → σ2 87 (98 * (min (u + 1) 8 - 1) + k) = τ 86 k) ∧ (∀ i k, 1 ≤ i → i < min (u + 1) 8 → k < 98 → σ2 87 (98 * (min (u + 1) 8 - 1 - i) + k) = τ 87 (98 * (u - 1 - (i - 1)) + k)) ∧ (∀ c k, c ≠ 87 → (c ≠ 85 ∨ k ≠ 2) → σ2 c k = τ c k) ∧ (∀ k, σ2 86 k = σ 86 k) ∧ σ2 85 6 = nI n ∧ MLn A σ2 90 n l ∧
            fX10_declare N τ (nI j) (nI c) = if passS A l n j (A 8 c) = true then (xB (fX10_isWorn N σ2 (nI (l (n - 1))) 86 67) (fun y23 m24 => if y23 = 0 then fX10_declare_J95 N (nI j) 1 m24 else fX10_declare_J94 N (nI j) m24)) else fX10_declare_J94 N (nI j) σ2 := by
          intro τ ft
          have fs : ∀ c k, c ≠ 29 → c ≠ 32 + nx → c ≠ 30 → τ c k = σ c k := fun c k g1 g2 g3 => (ft _ _ g3).trans (r5 _ _ g1 g2)
          obtain ⟨σ2, s1, s2, s3, s4, s5⟩ := rem_m hN u1 (show τ 85 2 = nI u from (fs _ _ (by omega) (by omega) (by omega)).trans u4)
          have f86 : ∀ k, σ2 86 k = σ 86 k := fun k => (s5 _ _ (by omega) (by omega)).trans (fs _ _ (by omega) (by omega) (by omega))
          have f85 : σ2 85 6 = nI n := (s5 _ _ (by omega) (by omega)).trans ((fs _ _ (by omega) (by omega) (by omega)).trans n3)
          have f90 : ∀ k, σ2 90 k = σ 90 k := fun k => (s5 _ _ (by omega) (by omega)).trans (fs _ _ (by omega) (by omega) (by omega))
          have M2 : MLn A σ2 90 n l := ⟨hA.tm.eqL h1 (fun k _ => f86 k), h1, n5.2.2.1, n5.2.2.2.1, fun i hi => ⟨(n5.2.2.2.2 i hi).1, (f90 _).trans (n5.2.2.2.2 i hi).2⟩⟩
          refine ⟨σ2, s2, s3, s4, s5, f86, f85, M2, ?_⟩
          rw [hm τ ((fs _ _ (by omega) (by omega) (by omega)).trans wa2) ((fs _ _ (by omega) (by omega) (by omega)).trans wc2) ((fs _ _ (by omega) (by omega) (by omega)).trans t3) ((fs _ _ (by omega) (by omega) (by omega)).trans d3), if_pos z, if_neg q, s1, xB_s, f85, passed_m (by omega) M2 hj hc, xB_s, b2i0]
          by_cases p : passS A l n j (A 8 c) = true
          · have hn : 0 < n := by
              rcases Nat.eq_zero_or_pos n with e | e
              · subst e; exact absurd p (by simp [passS])
              · exact e
            rw [if_pos p, if_pos p, f85, l1, pk_sub (by omega), xin_t (by omega) (by decide), gd_t, nI_clamp (by omega), (M2.2.2.2.2 (n - 1) (by omega)).2]
          · rw [if_neg p, if_neg p]
        -- settled as turned away
        have away : ∀ τ : XS, τ = xUp (xUp (xUp σ1 30 (2 + j) 2) 30 1 (σ1 30 1 + 0)) 30 0 (σ1 30 0 + 1) → fX9_declare N σ (nI j) (nI c) = some (0, τ) → (∀ σ2 : XS, (∀ k, σ2 86 k = σ 86 k) → σ2 85 6 = nI n → MLn A σ2 90 n l → (if passS A l n j (A 8 c) = true then (xB (fX10_isWorn N σ2 (nI (l (n - 1))) 86 67) (fun y23 m24 => if y23 = 0 then fX10_declare_J95 N (nI j) 1 m24 else fX10_declare_J94 N (nI j) m24)) else fX10_declare_J94 N (nI j) σ2) = fX10_declare_J94 N (nI j) σ2) → ∃ (r : Int32) (σ1 σ2 : XS), fX9_declare N σ (nI j) (nI c) = some (r, σ1) ∧ fX10_declare N σ1 (nI j) (nI c) = some (r, σ2) ∧ RR σ2 := by
          intro τ hτ fc hno
          have ft : ∀ c k, c ≠ 30 → τ c k = σ1 c k := fun c k hc => by rw [hτ, up_c (by omega), up_c (by omega), up_c (by omega)]
          obtain ⟨σ2, s2, s3, s4, s5, f86, f85, M2, fm⟩ := ref τ ft
          rw [hno σ2 f86 f85 M2] at fm
          have e94 : fX10_declare_J94 N (nI j) σ2 = some (0, xUp (xUp (xUp σ2 86 (48 + 3 * j) 2) 86 5 (σ2 86 5 + 0)) 86 4 (σ2 86 4 + 1)) := by
            unfold fX10_declare_J94 fX10_declare_J95
            rw [if_pos rfl]
            unfold fX10_declare_J153
            rw [if_pos rfl]
            unfold fX10_declare_J164
            rw [if_pos rfl, pays_m (by omega), xB_s]
          rw [e94] at fm
          refine sim_mk (f := fun σ => fX9_declare N σ (nI j) (nI c)) (g := fun σ => fX10_declare N σ (nI j) (nI c)) _ _ _ fc fm ⟨A, hA.step u1 u2 u6 r2 r3 r4 r5 ft s2 s3 s4 s5 (fun c k hc => by rw [up_c (by omega), up_c (by omega), up_c (by omega)]) ?_⟩
          refine SN.pay (f := σ1 30) (g := σ2 86) (d := d) (a := j) (t := 2) (v := 0) h1 (h3.eq h30 f86) (by omega) ((h30 _).trans d2) (by omega) (by omega) ?_ ?_ ?_ (fun k g1 g2 g3 => ?_) ?_ ?_ ?_ (fun k g1 g2 g3 => ?_)
          · rw [hτ, up_s, h30, d2, nI_1]
          · rw [hτ, up_c (by omega), up_s]
          · rw [hτ, up_c (by omega), up_c (by omega), up_s]; rfl
          · rw [hτ, up_c (by omega), up_c (by omega), up_c (by omega)]
          · rw [up_s, f86, d3, nI_1]
          · rw [up_c (by omega), up_s]
          · rw [up_c (by omega), up_c (by omega), up_s]; rfl
          · rw [up_c (by omega), up_c (by omega), up_c (by omega)]
        by_cases p : passS A l n j (A 8 c) = true
        · have hn : 0 < n := by
            rcases Nat.eq_zero_or_pos n with e | e
            · subst e; exact absurd p (by simp [passS])
            · exact e
          have hw : l (n - 1) < A 0 0 := (C1.2.2.2.2 (n - 1) (by omega)).1
          have kb := (h1.2.2.2.2.1 _ hw).1
          obtain ⟨-, -, -, -, -, rb⟩ := h1.2.2.2.2.1 _ hw
          obtain ⟨us, us1, us2, us3⟩ := hA.used (show A 4 (l (n - 1)) < 6 by omega)
          have b9 := (hA.can (show A 4 (l (n - 1)) < 6 by omega)).2.2
          have e9 : σ1 10 (A 4 (l (n - 1))) = nI (A 9 (A 4 (l (n - 1)))) := (r5 _ _ (by omega) (by omega)).trans (hA.can (show A 4 (l (n - 1)) < 6 by omega)).1
          have fc0 : fX9_declare N σ (nI j) (nI c) = xB (fX0_usesOf N σ1 (if A 1 (l (n - 1)) = 2 then -1 else nI (A 4 (l (n - 1))))) (fun y25 m26 => xB (fX8_isWorn N m26 (if A 1 (l (n - 1)) = 2 then -1 else nI (A 4 (l (n - 1)))) y25) (fun y28 m29 => if y28 = 0 then xB (fX0_use N m29 (if A 1 (l (n - 1)) = 2 then -1 else nI (A 4 (l (n - 1))))) (fun _ m32 => xB (fX9_at N m32 7 (nI j)) (fun y34 m35 => xB (fX0_settle N m35 (nI j) 1 y34) (fun y37 m38 => some (y37, m38)))) else xB (fX0_settle N m29 (nI j) 2 0) (fun y40 m41 => some (y40, m41)))) := by
            rw [hcc, if_pos z, if_neg q, r1, xB_s, lastWord_n C1 hn, xB_s, wornBy_c C1.1 h1 hw, xB_s, admits_n (by omega) C1 hj hc, xB_s, b2i0, if_pos p]
          by_cases y : A 1 (l (n - 1)) = 2
          · rw [if_pos y] at fc0
            have fc : fX9_declare N σ (nI j) (nI c) = some (nI (A 6 j), xUp (xUp (xUp σ1 30 (2 + j) 1) 30 1 (σ1 30 1 + nI (A 6 j))) 30 0 (σ1 30 0 + 1)) := by
              rw [fc0]
              unfold fX0_usesOf
              rw [if_pos (by decide), xB_s]
              unfold fX8_isWorn
              rw [if_pos rfl, xB_s, if_pos rfl]
              unfold fX0_use
              rw [if_pos (by decide), xB_s, at_n (len := 6) rfl (by omega) (by decide), xB_s, ea, settle_c (by omega), xB_s]
            generalize hτ : xUp (xUp (xUp σ1 30 (2 + j) 1) 30 1 (σ1 30 1 + nI (A 6 j))) 30 0 (σ1 30 0 + 1) = τ at fc
            have ft : ∀ c k, c ≠ 30 → τ c k = σ1 c k := fun c k hc => by rw [← hτ, up_c (by omega), up_c (by omega), up_c (by omega)]
            obtain ⟨σ2, s2, s3, s4, s5, f86, f85, M2, fm⟩ := ref τ ft
            have e4 := (M2.1.2.2.2.2.1 _ hw).2.2.2
            have f46 : σ2 86 (46 + 3 * j) = nI (A 6 j) := (f86 _).trans v2
            have fm2 : fX10_declare N τ (nI j) (nI c) = some (nI (A 6 j), xUp (xUp (xUp (xUp σ2 86 (67 + A 4 (l (n - 1))) (σ2 86 (67 + A 4 (l (n - 1))) + 0)) 86 (48 + 3 * j) 1) 86 5 (σ2 86 5 + nI (A 6 j))) 86 4 (σ2 86 4 + 1)) := by
              rw [fm, if_pos p, worn_m M2.1 h1 hw ((f86 _).trans us3) (by omega), xB_s, y, b2i0, if_neg (by simp)]
              unfold fX10_declare_J95
              have e : ((6 : Int32) + 4 * nI (l (n - 1))) + 3 = nI (6 + 4 * l (n - 1) + 3) := by rw [l6, l4, l3, pk_mul, nI_add, nI_add]
              have wb := h1.1
              rw [if_neg (by decide), f85, l1, pk_sub (by omega), xin_t (by omega) (by decide), gd_t, nI_clamp (by omega), (M2.2.2.2.2 (n - 1) (by omega)).2, xLetI_e, e, xin_t (by omega) (by decide), gd_t, nI_clamp (by omega), e4, show (67 : Int32) = nI 67 from rfl, nI_add, xin_t (by omega) (by decide), gd_t, kindOf_m M2.1 h1 hw, xB_s, y, if_pos (by rfl), nI_clamp (by omega)]
              unfold fX10_declare_J151
              rw [xLet_e, xin_t (by omega) (by decide), gd_t, nI_clamp (by omega)]
              unfold fX10_declare_J153
              rw [if_neg (by decide)]
              unfold fX10_declare_J164
              rw [if_neg (by decide), e3, xin_t (by omega) (by decide), gd_t, nI_clamp (by omega), up_c (by omega), f46, pays_m (by omega), xB_s, up_c (by omega), up_c (by omega)]
              rfl
            refine sim_mk (f := fun σ => fX9_declare N σ (nI j) (nI c)) (g := fun σ => fX10_declare N σ (nI j) (nI c)) _ _ _ fc fm2 ⟨A, hA.step u1 u2 u6 r2 r3 r4 r5 ft s2 s3 s4 s5 (fun c k hc => by rw [up_c (by omega), up_c (by omega), up_c (by omega), up_c (by omega)]) ?_⟩
            have f67 : ∀ k, (xUp σ2 86 (67 + A 4 (l (n - 1))) (σ2 86 (67 + A 4 (l (n - 1))) + 0)) 86 k = σ 86 k := fun k => by
              by_cases e : k = 67 + A 4 (l (n - 1))
              · rw [e, up_s, f86]; exact Int32.add_zero _
              · rw [up_c (by omega), f86]
            refine SN.pay (f := σ1 30) (g := (xUp σ2 86 (67 + A 4 (l (n - 1))) (σ2 86 (67 + A 4 (l (n - 1))) + 0)) 86) (d := d) (a := j) (t := 1) (v := nI (A 6 j)) h1 (h3.eq h30 f67) (by omega) ((h30 _).trans d2) (by omega) (by omega) ?_ ?_ ?_ (fun k g1 g2 g3 => ?_) ?_ ?_ ?_ (fun k g1 g2 g3 => ?_)
            · rw [← hτ, up_s, h30, d2, nI_1]
            · rw [← hτ, up_c (by omega), up_s]
            · rw [← hτ, up_c (by omega), up_c (by omega), up_s]; rfl
            · rw [← hτ, up_c (by omega), up_c (by omega), up_c (by omega)]
            · rw [up_s, f86, d3, nI_1]
            · rw [up_c (by omega), up_s, f67, f86]
            · rw [up_c (by omega), up_c (by omega), up_s]; rfl
            · rw [up_c (by omega), up_c (by omega), up_c (by omega)]
          · rw [if_neg y] at fc0
            have fcw : fX8_isWorn N σ1 (nI (A 4 (l (n - 1)))) (nI us) = some (b2i (decide (A 9 (A 4 (l (n - 1))) ≤ us)), σ1) := by
              unfold fX8_isWorn
              rw [if_neg (ne1 (by omega)), at_n (len := 6) rfl (by omega) (by decide), xB_s, e9]
              by_cases x : us < A 9 (A 4 (l (n - 1)))
              · rw [if_pos (nI_lt x (by omega)), decide_eq_false (by omega)]; rfl
              · rw [if_neg (nI_nlt (by omega) (by omega)), decide_eq_true (by omega)]; rfl
            rw [uses_n (by omega), xB_s, h30, us2, fcw, xB_s, b2i0] at fc0
            by_cases x : A 9 (A 4 (l (n - 1))) ≤ us
            · rw [if_pos (decide_eq_true x), settle_c (by omega), xB_s] at fc0
              refine away _ rfl fc0 (fun σ2 f86 f85 M2 => ?_)
              rw [if_pos p, worn_m M2.1 h1 hw ((f86 _).trans us3) (by omega), xB_s, b2i0, if_pos (by simp [x, y])]
            · rw [if_neg (by simpa using x)] at fc0
              have fu : fX0_use N σ1 (nI (A 4 (l (n - 1)))) = some (0, xUp σ1 30 (8 + A 4 (l (n - 1))) (nI (us + 1))) := by
                unfold fX0_use
                rw [if_neg (nI_pos (by omega)), show (6 : Int32) = nI 6 from rfl, if_neg (nI_ge (by omega) (by decide)), show (8 : Int32) = nI 8 from rfl, nI_add, xin_t (by omega) (by decide), nI_clamp (by omega), gd_t, xLet_e, gd_t, h30, us2, nI_1]
              have fc : fX9_declare N σ (nI j) (nI c) = some (nI (A 6 j), xUp (xUp (xUp (xUp σ1 30 (8 + A 4 (l (n - 1))) (nI (us + 1))) 30 (2 + j) 1) 30 1 (σ1 30 1 + nI (A 6 j))) 30 0 (σ1 30 0 + 1)) := by
                rw [fc0, fu, xB_s, at_n (len := 6) rfl (by omega) (by decide), xB_s, up_c (by omega), ea, settle_c (by omega), xB_s, up_c (by omega), up_c (by omega)]
              generalize hτ : xUp (xUp (xUp (xUp σ1 30 (8 + A 4 (l (n - 1))) (nI (us + 1))) 30 (2 + j) 1) 30 1 (σ1 30 1 + nI (A 6 j))) 30 0 (σ1 30 0 + 1) = τ at fc
              have ft : ∀ c k, c ≠ 30 → τ c k = σ1 c k := fun c k hc => by rw [← hτ, up_c (by omega), up_c (by omega), up_c (by omega), up_c (by omega)]
              obtain ⟨σ2, s2, s3, s4, s5, f86, f85, M2, fm⟩ := ref τ ft
              have e4 := (M2.1.2.2.2.2.1 _ hw).2.2.2
              have f46 : σ2 86 (46 + 3 * j) = nI (A 6 j) := (f86 _).trans v2
              have fm2 : fX10_declare N τ (nI j) (nI c) = some (nI (A 6 j), xUp (xUp (xUp (xUp σ2 86 (67 + A 4 (l (n - 1))) (nI (us + 1))) 86 (48 + 3 * j) 1) 86 5 (σ2 86 5 + nI (A 6 j))) 86 4 (σ2 86 4 + 1)) := by
                rw [fm, if_pos p, worn_m M2.1 h1 hw ((f86 _).trans us3) (by omega), xB_s, b2i0, if_neg (by simp [x, y])]
                unfold fX10_declare_J95
                have e : ((6 : Int32) + 4 * nI (l (n - 1))) + 3 = nI (6 + 4 * l (n - 1) + 3) := by rw [l6, l4, l3, pk_mul, nI_add, nI_add]
                have wb := h1.1
                rw [if_neg (by decide), f85, l1, pk_sub (by omega), xin_t (by omega) (by decide), gd_t, nI_clamp (by omega), (M2.2.2.2.2 (n - 1) (by omega)).2, xLetI_e, e, xin_t (by omega) (by decide), gd_t, nI_clamp (by omega), e4, show (67 : Int32) = nI 67 from rfl, nI_add, xin_t (by omega) (by decide), gd_t, kindOf_m M2.1 h1 hw, xB_s, if_neg (by rw [l2, nI_eq (by omega) (by omega)]; exact y), nI_clamp (by omega), f86, us3]
                unfold fX10_declare_J151
                rw [xLet_e, nI_add, xin_t (by omega) (by decide), gd_t, nI_clamp (by omega)]
                unfold fX10_declare_J153
                rw [if_neg (by decide)]
                unfold fX10_declare_J164
                rw [if_neg (by decide), e3, xin_t (by omega) (by decide), gd_t, nI_clamp (by omega), up_c (by omega), f46, pays_m (by omega), xB_s, up_c (by omega), up_c (by omega)]
                rfl
              refine sim_mk (f := fun σ => fX9_declare N σ (nI j) (nI c)) (g := fun σ => fX10_declare N σ (nI j) (nI c)) _ _ _ fc fm2 ⟨A, hA.step u1 u2 u6 r2 r3 r4 r5 ft s2 s3 s4 s5 (fun c k hc => by rw [up_c (by omega), up_c (by omega), up_c (by omega), up_c (by omega)]) ?_⟩
              have S1 : SN A ((xUp σ1 30 (8 + A 4 (l (n - 1))) (nI (us + 1))) 30) ((xUp σ2 86 (67 + A 4 (l (n - 1))) (nI (us + 1))) 86) :=
                SN.use (f := σ 30) (g := σ 86) (r := A 4 (l (n - 1))) (n := us + 1) h1 h3 (by omega) (by omega) up_s (fun k hk => by rw [up_c (by omega), h30]) up_s (fun k hk => by rw [up_c (by omega), f86])
              refine SN.pay (d := d) (a := j) (t := 1) (v := nI (A 6 j)) h1 S1 (by omega) (by rw [up_c (by omega), h30]; exact d2) (by omega) (by omega) ?_ ?_ ?_ (fun k g1 g2 g3 => ?_) ?_ ?_ ?_ (fun k g1 g2 g3 => ?_)
              · rw [← hτ, up_s, h30, d2, nI_1]
              · rw [← hτ, up_c (by omega), up_s, up_c (c := 30) (b := 1) (k := 8 + A 4 (l (n - 1))) (by omega)]
              · rw [← hτ, up_c (by omega), up_c (by omega), up_s]; rfl
              · rw [← hτ, up_c (by omega), up_c (by omega), up_c (by omega)]
              · rw [up_s, f86, d3, nI_1]
              · rw [up_c (by omega), up_s, up_c (c := 86) (b := 5) (k := 67 + A 4 (l (n - 1))) (by omega)]
              · rw [up_c (by omega), up_c (by omega), up_s]; rfl
              · rw [up_c (by omega), up_c (by omega), up_c (by omega)]
        · refine away _ rfl ?_ (fun σ2 _ _ _ => if_neg p)
          have hlw : ∃ y, xB (fX4_lastWord N σ1 44) (fun y13 m14 => fX8_rhymeWornBy N m14 y13) = some (y, σ1) := by
            by_cases hn : 0 < n
            · exact ⟨_, by rw [lastWord_n C1 hn, xB_s, wornBy_c C1.1 h1 (C1.2.2.2.2 (n - 1) (by omega)).1]⟩
            · have e0 : n = 0 := by omega
              subst e0
              refine ⟨-1, ?_⟩
              unfold fX4_lastWord fX4_wordAt
              rw [C1.2.2.1, if_pos (by decide), xB_s, xB_s]
              unfold fX8_rhymeWornBy
              have wb := h1.1
              rw [isWord_c C1.1.1 (by omega), xB_s, ite1, if_neg]
              rintro ⟨i, hi, e⟩
              exact ne1 (by omega) e.symm
          obtain ⟨y, hy⟩ := hlw
          rw [hcc, if_pos z, if_neg q, r1, xB_s]
          have e : ∀ K : Int32 → XS → Option XO, xB (fX4_lastWord N σ1 44) (fun y13 m14 => xB (fX8_rhymeWornBy N m14 y13) K) = K y σ1 := fun K => by
            rw [xB_assoc, hy, xB_s]
          rw [e, admits_n (by omega) C1 hj hc, xB_s, b2i0, if_neg p, settle_c (by omega), xB_s]
    · refine sim_mk (f := fun σ => fX9_declare N σ (nI j) (nI c)) (g := fun σ => fX10_declare N σ (nI j) (nI c)) (-4) σ σ ?_ ?_ hR
      · show fX9_declare N σ (nI j) (nI c) = _
        rw [hcc, if_neg z]
      · show fX10_declare N σ (nI j) (nI c) = _
        rw [hm σ wa2 wc2 t3 d3, if_neg z]
  · refine sim_mk (f := fun σ => fX9_declare N σ a b) (g := fun σ => fX10_declare N σ a b) (-2) σ σ ?_ ?_ hR
    · show fX9_declare N σ a b = _
      unfold fX9_declare
      rw [areKnown_c wa1 wc1 (by omega) (by omega), xB_s, ite1, if_neg hx]
    · show fX10_declare N σ a b = _
      unfold fX10_declare
      rw [areBoth_m wa2 wc2 (by omega) (by omega), xB_s, ite1, if_neg hx]
