/-! MORE EASY CALLS -/
theorem up_c {σ : XS} {i k c b : Nat} {v : Int32} (h : c ≠ i ∨ b ≠ k) : xUp σ i k v c b = σ c b := by
  unfold xUp xUf
  by_cases e : c = i
  · subst e
    rw [if_pos rfl]
    unfold upd
    rw [if_neg (by omega)]
  · rw [if_neg e]
theorem up_s {σ : XS} {i k : Nat} {v : Int32} : xUp σ i k v i k = v := by
  unfold xUp xUf
  rw [if_pos rfl]
  exact if_pos rfl
theorem up_f {σ : XS} {i k c : Nat} {v : Int32} (h : c ≠ i) : xUp σ i k v c = σ c := funext fun _ => up_c (Or.inl h)
theorem TC.eq {A : Nat → Nat → Nat} {σ σ' : XS} (h : TC A σ) (e : ∀ c k, 1 ≤ c → c ≤ 10 → σ' c k = σ c k) : TC A σ' := by
  obtain ⟨a1, a2, a3, a4, a5, a6, a7, a8, a9⟩ := h
  refine ⟨(e _ _ (by decide) (by decide)).trans a1, (e _ _ (by decide) (by decide)).trans a2, (e _ _ (by decide) (by decide)).trans a3, (e _ _ (by decide) (by decide)).trans a4, fun w hw => ?_, fun p hp => (e _ _ (by decide) (by decide)).trans (a6 p hp), fun a ha => ?_, fun c hc => (e _ _ (by decide) (by decide)).trans (a8 c hc), fun r hr => (e _ _ (by decide) (by decide)).trans (a9 r hr)⟩
  · obtain ⟨q1, q2, q3, q4⟩ := a5 w hw
    exact ⟨(e _ _ (by decide) (by decide)).trans q1, (e _ _ (by decide) (by decide)).trans q2, (e _ _ (by decide) (by decide)).trans q3, (e _ _ (by decide) (by decide)).trans q4⟩
  · obtain ⟨q1, q2⟩ := a7 a ha
    exact ⟨(e _ _ (by decide) (by decide)).trans q1, (e _ _ (by decide) (by decide)).trans q2⟩
theorem UD.eq {A : Nat → Nat → Nat} {σ σ' : XS} (h : UD A σ) (e : ∀ c k, c = 29 ∨ (32 ≤ c ∧ c ≤ 43) ∨ (87 ≤ c ∧ c ≤ 89) → σ' c k = σ c k) (e2 : σ' 85 2 = σ 85 2) : UD A σ' := by
  obtain ⟨⟨u, nx, b1, b2, b3, b4, b5, b6⟩, b7⟩ := h
  refine ⟨⟨u, nx, b1, b2, (e _ _ (Or.inl rfl)).trans b3, e2.trans b4, (e _ _ (Or.inl rfl)).trans b5, fun i hi => (b6 i hi).eq (fun j => e _ _ (by omega)) (fun j => e _ _ (by omega))⟩, fun j hj => ?_⟩
  obtain ⟨b, q1, q2, q3, q4⟩ := b7 j hj
  exact ⟨b, q1, (e _ _ (by omega)).trans q2, (e _ _ (by omega)).trans q3, fun hb => (q4 hb).eq (fun i => e _ _ (by omega)) (fun i => e _ _ (by omega))⟩
theorem LN.eq {A : Nat → Nat → Nat} {σ σ' : XS} (h : LN A σ) (e : ∀ c k, c = 44 ∨ c = 45 ∨ c = 90 → σ' c k = σ c k) (e2 : σ' 85 6 = σ 85 6) : LN A σ' := by
  obtain ⟨n, l, c1, c2, c3, c4⟩ := h
  refine ⟨n, l, c1, (e _ _ (by omega)).trans c2, e2.trans c3, fun i hi => ?_⟩
  obtain ⟨q1, q2, q3⟩ := c4 i hi
  exact ⟨q1, (e _ _ (by omega)).trans q2, (e _ _ (by omega)).trans q3⟩
theorem TX.eq {σ σ' : XS} (h : TX σ) (e : ∀ c k, c = 12 ∨ c = 92 → σ' c k = σ c k) (e1 : σ' 11 3 = σ 11 3) (e2 : σ' 85 11 = σ 85 11) : TX σ' := by
  obtain ⟨n, l, c1, c2, c3, c4⟩ := h
  refine ⟨n, l, c1, e1.trans c2, e2.trans c3, fun i hi => ?_⟩
  obtain ⟨q1, q2, q3⟩ := c4 i hi
  exact ⟨q1, (e _ _ (by omega)).trans q2, (e _ _ (by omega)).trans q3⟩
theorem SC.eq {A : Nat → Nat → Nat} {σ σ' : XS} (h : SC A σ) (e : ∀ c k, c = 76 ∨ c = 77 ∨ c = 91 ∨ c = 68 → σ' c k = σ c k) (e1 : σ' 75 6 = σ 75 6) (e2 : σ' 75 7 = σ 75 7) (e3 : σ' 85 8 = σ 85 8) (e4 : σ' 85 9 = σ 85 9) : SC A σ' := by
  obtain ⟨hz, s, m, cl, nu, c1, c2, c3, c4, c5, c6, c7⟩ := h
  refine ⟨⟨(e _ _ (by omega)).trans hz.1, (e _ _ (by omega)).trans hz.2⟩, s, m, cl, nu, c1, c2, e1.trans c3, e4.trans c4, e2.trans c5, e3.trans c6, fun i hi => ?_⟩
  obtain ⟨q1, q2, q3, q4, q5, q6⟩ := c7 i hi
  exact ⟨q1, q2, (e _ _ (by omega)).trans q3, (e _ _ (by omega)).trans q4, (e _ _ (by omega)).trans q5, (e _ _ (by omega)).trans q6⟩
/-- both answers, and the relation behind -/
theorem sim_mk {f : XS → Option XO} {g : XS → Option XO} {σ : XS} (r : Int32) (σ1 σ2 : XS) (hf : f σ = some (r, σ1)) (hg : g σ1 = some (r, σ2)) (hR : RR σ2) : ∃ (r : Int32) (σ1 σ2 : XS), f σ = some (r, σ1) ∧ g σ1 = some (r, σ2) ∧ RR σ2 := ⟨r, σ1, σ2, hf, hg, hR⟩
theorem sim_put {N : Nat} : Sim10 N RR := by
  intro σ a hR
  obtain ⟨A, h⟩ := id hR
  obtain ⟨w1, w2, w3⟩ := h.w
  by_cases q : ∃ j, j < A 0 0 ∧ a = nI j
  · obtain ⟨h1, h2, h3, h4, ⟨n, l, n1, n2, n3, n4⟩, h6, h7⟩ := id h
    by_cases hn : n < 6
    · refine sim_mk (f := fun σ => fX9_put N σ a) (g := fun σ => fX10_put N σ a) (nI (n + 1)) (xUp (xUp σ 45 n a) 44 1 (nI (n + 1))) (xUp (xUp (xUp (xUp σ 45 n a) 44 1 (nI (n + 1))) 90 n a) 85 6 (nI (n + 1))) ?_ ?_ ?_
      · show fX9_put N σ a = _
        unfold fX9_put
        rw [isWord_c w1 (by omega), xB_s, ite1, if_pos q, n2, l6, if_pos (nI_lt hn (by decide))]
        unfold fX4_add
        rw [n2, l6, if_neg (nI_ge hn (by decide))]
        simp (disch := omega) only [xLet_e, gd_t, xin_t, up_s, up_c, nI_clamp, nI_1, pk_mul, xB_s, Nat.reduceAdd, n2, n3]
      · have e1 : (xUp (xUp σ 45 n a) 44 1 (nI (n + 1))) 86 0 = nI (A 0 0) := by simp (disch := omega) only [up_c]; exact w2
        have e2 : (xUp (xUp σ 45 n a) 44 1 (nI (n + 1))) 85 6 = nI n := by simp (disch := omega) only [up_c]; exact n3
        show fX10_put N _ a = _
        unfold fX10_put
        rw [isWord_m e1 (by omega), xB_s, ite1, if_pos q, e2, l6, if_neg (by rw [nI_eq (by omega) (by omega)]; omega)]
        simp (disch := omega) only [xLet_e, gd_t, xin_t, up_s, up_c, nI_clamp, nI_1, pk_mul, xB_s, Nat.reduceAdd, n2, n3]
      · obtain ⟨j, hj, rfl⟩ := q
        refine ⟨A, h1, h2.eq (fun c k _ _ => by simp (disch := omega) only [up_c]), h3.eq (fun k => by simp (disch := omega) only [up_c]) (fun k => by simp (disch := omega) only [up_c]), h4.eq (fun c k _ => by simp (disch := omega) only [up_c]) (by simp (disch := omega) only [up_c]), ⟨n + 1, fun i => if i = n then j else l i, by omega, ?_, up_s, fun i hi => ?_⟩, h6.eq (fun c k _ => by simp (disch := omega) only [up_c]) (by simp (disch := omega) only [up_c]) (by simp (disch := omega) only [up_c]), h7.eq (fun c k _ => by simp (disch := omega) only [up_c]) (by simp (disch := omega) only [up_c]) (by simp (disch := omega) only [up_c]) (by simp (disch := omega) only [up_c]) (by simp (disch := omega) only [up_c])⟩
        · simp (disch := omega) only [up_c, up_s, if_true]
        · by_cases e : i = n
          · subst e
            refine ⟨by simpa using hj, ?_, ?_⟩
            · simp (disch := omega) only [up_c, up_s, if_true]
            · simp (disch := omega) only [up_c, up_s, if_true]
          · obtain ⟨q1, q2, q3⟩ := n4 i (by omega)
            refine ⟨by simpa [e] using q1, ?_, ?_⟩
            · simp (disch := omega) only [up_c, if_neg e]; exact q2
            · simp (disch := omega) only [up_c, if_neg e]; exact q3
    · have hn : n = 6 := by omega
      subst hn
      refine sim_mk (f := fun σ => fX9_put N σ a) (g := fun σ => fX10_put N σ a) (-5) σ σ ?_ ?_ hR
      · show fX9_put N σ a = _
        unfold fX9_put
        rw [isWord_c w1 (by omega), xB_s, ite1, if_pos q, n2, if_neg (by decide)]
      · show fX10_put N σ a = _
        unfold fX10_put
        rw [isWord_m w2 (by omega), xB_s, ite1, if_pos q, n3, if_pos (by decide)]
  · refine sim_mk (f := fun σ => fX9_put N σ a) (g := fun σ => fX10_put N σ a) (-2) σ σ ?_ ?_ hR
    · show fX9_put N σ a = _
      unfold fX9_put
      rw [isWord_c w1 (by omega), xB_s, ite1, if_neg q]
    · show fX10_put N σ a = _
      unfold fX10_put
      rw [isWord_m w2 (by omega), xB_s, ite1, if_neg q]
theorem sim_wipe {N : Nat} : Sim11 N RR := by
  intro σ hR
  obtain ⟨A, h1, h2, h3, h4, ⟨n, l, n1, n2, n3, n4⟩, h6, h7⟩ := id hR
  refine sim_mk (f := fun σ => fX9_wipe N σ) (g := fun σ => fX10_wipe N σ) (nI n) (xUp σ 44 1 0) (xUp (xUp σ 44 1 0) 85 6 0) ?_ ?_ ?_
  · show fX9_wipe N σ = _
    unfold fX9_wipe fX4_clear
    rw [xLet_e, xB_s, n2]
  · show fX10_wipe N _ = _
    unfold fX10_wipe
    rw []
    simp (disch := omega) only [xLet_e, gd_t, xin_t, up_s, up_c, nI_clamp, nI_1, pk_mul, xB_s, Nat.reduceAdd, n3]
  · refine ⟨A, h1, h2.eq (fun c k _ _ => by simp (disch := omega) only [up_c]), h3.eq (fun k => by simp (disch := omega) only [up_c]) (fun k => by simp (disch := omega) only [up_c]), h4.eq (fun c k _ => by simp (disch := omega) only [up_c]) (by simp (disch := omega) only [up_c]), ⟨0, l, by omega, ?_, up_s, fun i hi => by omega⟩, h6.eq (fun c k _ => by simp (disch := omega) only [up_c]) (by simp (disch := omega) only [up_c]) (by simp (disch := omega) only [up_c]), h7.eq (fun c k _ => by simp (disch := omega) only [up_c]) (by simp (disch := omega) only [up_c]) (by simp (disch := omega) only [up_c]) (by simp (disch := omega) only [up_c]) (by simp (disch := omega) only [up_c])⟩
    simp (disch := omega) only [up_c, up_s]; rw [l0]
theorem sim_erase {N : Nat} : Sim1 N RR := by
  intro σ hR
  obtain ⟨A, h1, h2, h3, h4, h5, ⟨n, l, n1, n2, n3, n4⟩, h7⟩ := id hR
  refine sim_mk (f := fun σ => fX9_erase N σ) (g := fun σ => fX10_erase N σ) (nI n) (xUp σ 11 3 0) (xUp (xUp σ 11 3 0) 85 11 0) ?_ ?_ ?_
  · show fX9_erase N σ = _
    unfold fX9_erase fX7_clear
    rw [xLet_e, xB_s, n2]
  · show fX10_erase N _ = _
    unfold fX10_erase
    rw []
    simp (disch := omega) only [xLet_e, gd_t, xin_t, up_s, up_c, nI_clamp, nI_1, pk_mul, xB_s, Nat.reduceAdd, n3]
  · refine ⟨A, h1, h2.eq (fun c k _ _ => by simp (disch := omega) only [up_c]), h3.eq (fun k => by simp (disch := omega) only [up_c]) (fun k => by simp (disch := omega) only [up_c]), h4.eq (fun c k _ => by simp (disch := omega) only [up_c]) (by simp (disch := omega) only [up_c]), h5.eq (fun c k _ => by simp (disch := omega) only [up_c]) (by simp (disch := omega) only [up_c]), ⟨0, l, by omega, ?_, up_s, fun i hi => by omega⟩, h7.eq (fun c k _ => by simp (disch := omega) only [up_c]) (by simp (disch := omega) only [up_c]) (by simp (disch := omega) only [up_c]) (by simp (disch := omega) only [up_c]) (by simp (disch := omega) only [up_c])⟩
    simp (disch := omega) only [up_c, up_s]; rw [l0]
theorem sim_line {N : Nat} : Sim12 N RR := by
  intro σ a hR
  obtain ⟨A, h1, h2, h3, h4, ⟨n, l, n1, n2, n3, n4⟩, h6, h7⟩ := id hR
  rcases or_assoc.mpr (icase a n (by omega)) with ha | ⟨k, hk, rfl⟩
  · refine sim_mk (f := fun σ => fX9_line N σ a) (g := fun σ => fX10_line N σ a) (-3) σ σ ?_ ?_ hR
    · show fX9_line N σ a = _
      unfold fX9_line
      rw [n2]
      by_cases h0 : a < 0
      · rw [if_pos h0]
      · rw [if_neg h0, if_neg (by rcases ha with q | q; exact absurd q h0; exact Int32.not_lt.mpr q)]
    · show fX10_line N σ a = _
      unfold fX10_line
      rw [n3, ref_test (by omega), xB_s, ite1, if_neg (out_ex ha (by omega))]
  · obtain ⟨q1, q2, q3⟩ := n4 k hk
    refine sim_mk (f := fun σ => fX9_line N σ (nI k)) (g := fun σ => fX10_line N σ (nI k)) (nI (l k)) σ σ ?_ ?_ hR
    · show fX9_line N σ (nI k) = _
      unfold fX9_line
      rw [n2, if_neg (nI_pos (by omega)), if_pos (nI_lt hk (by omega))]
      unfold fX4_wordAt
      rw [n2, if_neg (nI_pos (by omega)), if_neg (nI_ge hk (by omega)), l6, if_neg (nI_ge (by omega) (by omega)), xin_t (by omega) (by decide), gd_t, nI_clamp (by omega), xB_s, show σ (44 + 1) k = _ from q2]
    · show fX10_line N σ (nI k) = _
      unfold fX10_line
      rw [n3, ref_test (by omega), xB_s, ite1, if_pos ⟨k, hk, rfl⟩, xin_t (by omega) (by decide), gd_t, nI_clamp (by omega), q3]
theorem l256 : (256 : Int32) = nI 256 := rfl
theorem l160 : (160 : Int32) = nI 160 := rfl
theorem l24 : (24 : Int32) = nI 24 := rfl
theorem nar_char {n : Nat} (h : n < 256) : vp_nar .char (((nI n).toUInt32 % 65536).toInt32) = nI n := by
  rw [pk_vc, pk_char, pk_tn (by omega), Nat.mod_eq_of_lt (by omega)]
theorem sim_write {N : Nat} : Sim0 N RR := by
  intro σ a hR
  obtain ⟨A, h1, h2, h3, h4, h5, ⟨n, t, n1, n2, n3, n4⟩, h7⟩ := id hR
  rcases or_assoc.mpr (icase a 256 (by decide)) with ha | ⟨k, hk, rfl⟩
  · refine sim_mk (f := fun σ => fX9_write N σ a) (g := fun σ => fX10_write N σ a) (-3) σ σ ?_ ?_ hR
    · show fX9_write N σ a = _
      unfold fX9_write
      by_cases h0 : a < 0
      · rw [if_pos h0]
      · rw [if_neg h0, if_neg (by rcases ha with q | q; exact absurd q h0; exact Int32.not_lt.mpr q)]
    · show fX10_write N σ a = _
      unfold fX10_write
      rw [show (255 : Int64) = (nI 256 - 1).toInt64 from rfl, ref_test (by decide), xB_s, ite1, if_neg (out_ex ha (by decide))]
  · by_cases hn : n < 160
    · refine sim_mk (f := fun σ => fX9_write N σ (nI k)) (g := fun σ => fX10_write N σ (nI k)) (nI (n + 1)) (xUp (xUp σ 12 n (nI k)) 11 3 (nI (n + 1))) (xUp (xUp (xUp (xUp σ 12 n (nI k)) 11 3 (nI (n + 1))) 92 n (nI k)) 85 11 (nI (n + 1))) ?_ ?_ ?_
      · show fX9_write N σ (nI k) = _
        unfold fX9_write
        rw [if_neg (nI_pos (by omega)), l256, l160, if_pos (nI_lt hk (by decide)), n2, if_pos (nI_lt hn (by decide))]
        unfold fX7_add
        rw [n2, l160, if_neg (nI_ge hn (by decide))]
        simp (disch := omega) only [xLet_e, gd_t, xin_t, up_s, up_c, nI_clamp, nI_1, pk_mul, xB_s, Nat.reduceAdd, n2, nar_char hk]
      · have e2 : (xUp (xUp σ 12 n (nI k)) 11 3 (nI (n + 1))) 85 11 = nI n := by simp (disch := omega) only [up_c]; exact n3
        show fX10_write N _ (nI k) = _
        unfold fX10_write
        rw [show (255 : Int64) = (nI 256 - 1).toInt64 from rfl, ref_test (by decide), xB_s, ite1, if_pos ⟨k, hk, rfl⟩, e2, show (160 : Int32) = nI 160 from rfl, if_neg (by rw [nI_eq (by omega) (by omega)]; omega)]
        simp (disch := omega) only [xLet_e, gd_t, xin_t, up_s, up_c, nI_clamp, nI_1, pk_mul, xB_s, Nat.reduceAdd, n2, n3]
      · refine ⟨A, h1, h2.eq (fun c k _ _ => by simp (disch := omega) only [up_c]), h3.eq (fun k => by simp (disch := omega) only [up_c]) (fun k => by simp (disch := omega) only [up_c]), h4.eq (fun c k _ => by simp (disch := omega) only [up_c]) (by simp (disch := omega) only [up_c]), h5.eq (fun c k _ => by simp (disch := omega) only [up_c]) (by simp (disch := omega) only [up_c]), ⟨n + 1, fun i => if i = n then k else t i, by omega, ?_, up_s, fun i hi => ?_⟩, h7.eq (fun c k _ => by simp (disch := omega) only [up_c]) (by simp (disch := omega) only [up_c]) (by simp (disch := omega) only [up_c]) (by simp (disch := omega) only [up_c]) (by simp (disch := omega) only [up_c])⟩
        · simp (disch := omega) only [up_c, up_s, if_true]
        · by_cases e : i = n
          · subst e
            refine ⟨by simpa using hk, ?_, ?_⟩
            · simp (disch := omega) only [up_c, up_s, if_true]
            · simp (disch := omega) only [up_c, up_s, if_true]
          · obtain ⟨q1, q2, q3⟩ := n4 i (by omega)
            refine ⟨by simpa [e] using q1, ?_, ?_⟩
            · simp (disch := omega) only [up_c, if_neg e]; exact q2
            · simp (disch := omega) only [up_c, if_neg e]; exact q3
    · have hn : n = 160 := by omega
      subst hn
      refine sim_mk (f := fun σ => fX9_write N σ (nI k)) (g := fun σ => fX10_write N σ (nI k)) (-5) σ σ ?_ ?_ hR
      · show fX9_write N σ (nI k) = _
        unfold fX9_write
        rw [if_neg (nI_pos (by omega)), l256, if_pos (nI_lt hk (by decide)), n2, if_neg (by decide)]
      · show fX10_write N σ (nI k) = _
        unfold fX10_write
        rw [show (255 : Int64) = (nI 256 - 1).toInt64 from rfl, ref_test (by decide), xB_s, ite1, if_pos ⟨k, hk, rfl⟩, n3, if_pos (by decide)]
theorem sim_secret {N : Nat} : Sim31 N RR := by
  intro σ a hR
  obtain ⟨A, h1, h2, h3, h4, h5, h6, ⟨hz, s, m, cl, nu, c1, c2, c3, c4, c5, c6, c7⟩⟩ := id hR
  have hin : ∀ τ : XS, fX10_in N τ a.toInt64 1 3 = some (if 1 ≤ a ∧ a ≤ 3 then 1 else 0, τ) := fun τ => in_spec2 (lo := 1) (hi := 3) 1 3 rfl rfl
  have e : (1 ≤ a ∧ a ≤ 3) ↔ ∃ k, k < 3 ∧ a = nI (k + 1) := by
    constructor
    · intro ⟨g1, g2⟩
      rcases or_assoc.mpr (icase a 4 (by decide)) with ha | ⟨k, hk, rfl⟩
      · rcases ha with q | q
        · exact absurd (Int32.lt_of_lt_of_le q (by decide : (0 : Int32) ≤ 1)) (Int32.not_lt.mpr g1)
        · exact absurd (Int32.le_trans q g2) (by decide)
      · rw [l1, nI_leI (by omega) (by omega)] at g1
        exact ⟨k - 1, by omega, by rw [show k - 1 + 1 = k by omega]⟩
    · rintro ⟨k, hk, rfl⟩
      exact ⟨by rw [l1]; exact nI_le (by omega) (by omega), by rw [l3]; exact nI_le (by omega) (by omega)⟩
  by_cases q : ∃ k, k < 3 ∧ a = nI (k + 1)
  · obtain ⟨k, hk, rfl⟩ := id q
    refine sim_mk (f := fun σ => fX9_secret N σ (nI (k + 1))) (g := fun σ => fX10_secret N σ (nI (k + 1))) (nI m) (xUp (xUp σ 75 6 (nI (k + 1))) 75 7 0) (xUp (xUp (xUp (xUp σ 75 6 (nI (k + 1))) 75 7 0) 85 9 (nI (k + 1))) 85 8 0) ?_ ?_ ?_
    · show fX9_secret N σ (nI (k + 1)) = _
      unfold fX9_secret
      rw [l1, if_neg (nI_nlt (by omega) (by omega)), l3, if_pos (nI_le (by omega) (by omega))]
      unfold fX5_begin
      rw [xLet_e, xLet_e, xB_s, c5, l3, if_neg (nI_nlt (by omega) (by omega))]
    · show fX10_secret N _ (nI (k + 1)) = _
      unfold fX10_secret
      rw [hin, xB_s, ite1, if_pos (e.mpr q)]
      simp (disch := omega) only [xLet_e, gd_t, xin_t, up_s, up_c, nI_clamp, nI_1, pk_mul, xB_s, Nat.reduceAdd, c3, c4, c5, c6]
    · refine ⟨A, h1, h2.eq (fun c k _ _ => by simp (disch := omega) only [up_c]), h3.eq (fun k => by simp (disch := omega) only [up_c]) (fun k => by simp (disch := omega) only [up_c]), h4.eq (fun c k _ => by simp (disch := omega) only [up_c]) (by simp (disch := omega) only [up_c]), h5.eq (fun c k _ => by simp (disch := omega) only [up_c]) (by simp (disch := omega) only [up_c]), h6.eq (fun c k _ => by simp (disch := omega) only [up_c]) (by simp (disch := omega) only [up_c]) (by simp (disch := omega) only [up_c]), ⟨⟨by simp (disch := omega) only [up_c, hz], by simp (disch := omega) only [up_c, hz]⟩, k + 1, 0, cl, nu, by omega, by omega, ?_, ?_, ?_, up_s, fun i hi => by omega⟩⟩
      · simp (disch := omega) only [up_c, up_s, if_true]
      · simp (disch := omega) only [up_c, up_s, if_true]
      · simp (disch := omega) only [up_c, up_s]; rfl
  · refine sim_mk (f := fun σ => fX9_secret N σ a) (g := fun σ => fX10_secret N σ a) (-3) σ σ ?_ ?_ hR
    · show fX9_secret N σ a = _
      unfold fX9_secret
      by_cases g1 : a < 1
      · rw [if_pos g1]
      · rw [if_neg g1, if_neg]
        intro g2
        refine q ?_
        rcases or_assoc.mpr (icase a 4 (by decide)) with ha | ⟨k, hk, rfl⟩
        · rcases ha with q | q
          · exact absurd (Int32.lt_of_lt_of_le q (by decide : (0 : Int32) ≤ 1)) g1
          · exact absurd (Int32.le_trans q g2) (by decide)
        · rw [l1, nI_ltI (by omega) (by omega)] at g1
          exact ⟨k - 1, by omega, by rw [show k - 1 + 1 = k by omega]⟩
    · show fX10_secret N σ a = _
      unfold fX10_secret
      rw [hin, xB_s, ite1, if_neg (fun z => q (e.mp z))]
theorem sim_counted {N : Nat} : Sim32 N RR := by
  intro σ a b hR
  obtain ⟨A, h⟩ := id hR
  obtain ⟨w1, w2, w3⟩ := h.c
  by_cases q : ∃ j, j < A 0 2 ∧ a = nI j
  · obtain ⟨h1, h2, h3, h4, h5, h6, ⟨hz, s, m, cl, nu, c1, c2, c3, c4, c5, c6, c7⟩⟩ := id h
    rcases or_assoc.mpr (icase b 25 (by decide)) with hb | ⟨k, hk, rfl⟩
    · refine sim_mk (f := fun σ => fX9_counted N σ a b) (g := fun σ => fX10_counted N σ a b) (-3) σ σ ?_ ?_ hR
      · show fX9_counted N σ a b = _
        unfold fX9_counted
        rw [isClerk_c w1 (by omega), xB_s, ite1, if_pos q]
        by_cases h0 : b < 0
        · rw [if_pos h0]
        · rw [if_neg h0, if_neg]
          intro g
          rcases hb with z | z
          · exact h0 z
          · exact absurd (Int32.le_trans z g) (by decide)
      · show fX10_counted N σ a b = _
        unfold fX10_counted
        rw [isClerk_m w2 (by omega), xB_s, ite1, if_pos q, show (24 : Int64) = (nI 25 - 1).toInt64 from rfl, ref_test (by decide), xB_s, ite1, if_neg (out_ex hb (by decide))]
    · have hc : ∀ T : Option XO, (if nI k < 0 then some ((-3 : Int32), σ) else if nI k ≤ 24 then T else some (-3, σ)) = T := fun T => by rw [if_neg (nI_pos (by omega)), l24, if_pos (nI_le (by omega) (by omega))]
      by_cases hs : s = 0
      · subst hs
        refine sim_mk (f := fun σ => fX9_counted N σ a (nI k)) (g := fun σ => fX10_counted N σ a (nI k)) (-4) σ σ ?_ ?_ hR
        · show fX9_counted N σ a (nI k) = _
          unfold fX9_counted
          rw [isClerk_c w1 (by omega), xB_s, ite1, if_pos q, hc, c3, if_pos (by decide)]
        · show fX10_counted N σ a (nI k) = _
          unfold fX10_counted
          rw [isClerk_m w2 (by omega), xB_s, ite1, if_pos q, show (24 : Int64) = (nI 25 - 1).toInt64 from rfl, ref_test (by decide), xB_s, ite1, if_pos ⟨k, hk, rfl⟩, c4, if_pos (by decide)]
      · have hs0 : ¬ nI s = 0 := by rw [l0, nI_eq (by omega) (by omega)]; exact hs
        by_cases hm : m < 6
        · refine sim_mk (f := fun σ => fX9_counted N σ a (nI k)) (g := fun σ => fX10_counted N σ a (nI k)) (nI (m + 1)) (xUp (xUp (xUp σ 76 m a) 77 m (nI k)) 75 7 (nI (m + 1))) (xUp (xUp (xUp (xUp (xUp (xUp σ 76 m a) 77 m (nI k)) 75 7 (nI (m + 1))) 91 (2 * m) a) 91 (2 * m + 1) (nI k)) 85 8 (nI (m + 1))) ?_ ?_ ?_
          · show fX9_counted N σ a (nI k) = _
            unfold fX9_counted
            rw [isClerk_c w1 (by omega), xB_s, ite1, if_pos q, hc, c3, if_neg hs0, c5, l6, if_pos (nI_lt hm (by decide))]
            unfold fX5_add
            rw [c5, l6, if_neg (nI_ge hm (by decide))]
            simp (disch := omega) only [xLet_e, gd_t, xin_t, up_s, up_c, nI_clamp, nI_1, pk_mul, xB_s, Nat.reduceAdd, c3, c4, c5, c6]
          · have e1 : (xUp (xUp (xUp σ 76 m a) 77 m (nI k)) 75 7 (nI (m + 1))) 86 2 = nI (A 0 2) := by simp (disch := omega) only [up_c]; exact w2
            have e2 : (xUp (xUp (xUp σ 76 m a) 77 m (nI k)) 75 7 (nI (m + 1))) 85 9 = nI s := by simp (disch := omega) only [up_c]; exact c4
            have e3 : (xUp (xUp (xUp σ 76 m a) 77 m (nI k)) 75 7 (nI (m + 1))) 85 8 = nI m := by simp (disch := omega) only [up_c]; exact c6
            show fX10_counted N _ a (nI k) = _
            unfold fX10_counted
            rw [isClerk_m e1 (by omega), xB_s, ite1, if_pos q, show (24 : Int64) = (nI 25 - 1).toInt64 from rfl, ref_test (by decide), xB_s, ite1, if_pos ⟨k, hk, rfl⟩, e2, if_neg hs0, e3, l6, if_neg (by rw [nI_eq (by omega) (by omega)]; omega), l2, pk_mul]
            simp (disch := omega) only [xLet_e, gd_t, xin_t, up_s, up_c, nI_clamp, nI_1, pk_mul, xB_s, Nat.reduceAdd, c3, c4, c5, c6]
          · obtain ⟨j, hj, rfl⟩ := q
            refine ⟨A, h1, h2.eq (fun c k _ _ => by simp (disch := omega) only [up_c]), h3.eq (fun k => by simp (disch := omega) only [up_c]) (fun k => by simp (disch := omega) only [up_c]), h4.eq (fun c k _ => by simp (disch := omega) only [up_c]) (by simp (disch := omega) only [up_c]), h5.eq (fun c k _ => by simp (disch := omega) only [up_c]) (by simp (disch := omega) only [up_c]), h6.eq (fun c k _ => by simp (disch := omega) only [up_c]) (by simp (disch := omega) only [up_c]) (by simp (disch := omega) only [up_c]), ⟨⟨by simp (disch := omega) only [up_c, hz], by simp (disch := omega) only [up_c, hz]⟩, s, m + 1, fun i => if i = m then j else cl i, fun i => if i = m then k else nu i, c1, by omega, ?_, ?_, ?_, up_s, fun i hi => ?_⟩⟩
            · simp (disch := omega) only [up_c]; exact c3
            · simp (disch := omega) only [up_c]; exact c4
            · simp (disch := omega) only [up_c, up_s, if_true]
            · by_cases e : i = m
              · subst e
                refine ⟨by simpa using hj, by simp; omega, ?_, ?_, ?_, ?_⟩
                · simp (disch := omega) only [up_c, up_s, if_true]
                · simp (disch := omega) only [up_c, up_s, if_true]
                · simp (disch := omega) only [up_c, up_s, if_true]
                · simp (disch := omega) only [up_c, up_s, if_true]
              · obtain ⟨q1, q2, q3, q4, q5, q6⟩ := c7 i (by omega)
                refine ⟨by simpa [e] using q1, by simpa [e] using q2, ?_, ?_, ?_, ?_⟩
                · simp (disch := omega) only [up_c, if_neg e]; exact q3
                · simp (disch := omega) only [up_c, if_neg e]; exact q4
                · simp (disch := omega) only [up_c, if_neg e]; exact q5
                · simp (disch := omega) only [up_c, if_neg e]; exact q6
        · have hm : m = 6 := by omega
          subst hm
          refine sim_mk (f := fun σ => fX9_counted N σ a (nI k)) (g := fun σ => fX10_counted N σ a (nI k)) (-5) σ σ ?_ ?_ hR
          · show fX9_counted N σ a (nI k) = _
            unfold fX9_counted
            rw [isClerk_c w1 (by omega), xB_s, ite1, if_pos q, hc, c3, if_neg hs0, c5, if_neg (by decide)]
          · show fX10_counted N σ a (nI k) = _
            unfold fX10_counted
            rw [isClerk_m w2 (by omega), xB_s, ite1, if_pos q, show (24 : Int64) = (nI 25 - 1).toInt64 from rfl, ref_test (by decide), xB_s, ite1, if_pos ⟨k, hk, rfl⟩, c4, if_neg hs0, c6, if_pos (by decide)]
  · refine sim_mk (f := fun σ => fX9_counted N σ a b) (g := fun σ => fX10_counted N σ a b) (-2) σ σ ?_ ?_ hR
    · show fX9_counted N σ a b = _
      unfold fX9_counted
      rw [isClerk_c w1 (by omega), xB_s, ite1, if_neg q]
    · show fX10_counted N σ a b = _
      unfold fX10_counted
      rw [isClerk_m w2 (by omega), xB_s, ite1, if_neg q]
