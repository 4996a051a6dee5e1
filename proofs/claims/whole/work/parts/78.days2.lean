/-! UNDO, KEEP, BACK -/
section
variable {N : Nat} {A : Nat → Nat → Nat} {σ : XS}
theorem undo_lay (hN : 1000 ≤ N) {u : Nat} (hu : u < 8) (h1 : σ 85 2 = nI u) {k : XS → Option XO} : fX10_undo_L22 N k N 0 σ = k (xUf σ 86 (fun j => if j < 98 then σ 87 (98 * u + j) else σ 86 j)) := by
  have key : ∀ (d i m : Nat) (W : Nat → Int32), i + d = 98 → d < m → (∀ j, W j = if j < i then σ 87 (98 * u + j) else σ 86 j) → fX10_undo_L22 N k m (nI i) (xUf σ 86 W) = k (xUf σ 86 (fun j => if j < 98 then σ 87 (98 * u + j) else σ 86 j)) := by
    intro d
    induction d with
    | zero =>
      intro i m W hi hm hW
      obtain ⟨m, rfl⟩ : ∃ q, m = q + 1 := ⟨m - 1, by omega⟩
      have e : W = fun j => if j < 98 then σ 87 (98 * u + j) else σ 86 j := by
        funext j; rw [hW, show i = 98 by omega]
      rw [fX10_undo_L22, show (98 : Int32) = nI 98 from rfl, if_pos (nI_le (by omega) (by omega)), e]
    | succ d ih =>
      intro i m W hi hm hW
      obtain ⟨m, rfl⟩ : ∃ q, m = q + 1 := ⟨m - 1, by omega⟩
      rw [fX10_undo_L22, show (98 : Int32) = nI 98 from rfl, if_neg (nI_ge (by omega) (by omega)), uf_c (by omega), h1, pk_mul, nI_add, xin_t (by omega) (by decide), gd_t, xLet_e, xin_t (by omega) (by decide), gd_t, nI_clamp (by omega), nI_clamp (by omega), uf_c (by omega), nI_1, up_uf]
      refine ih (i + 1) m _ (by omega) (by omega) (fun j => ?_)
      unfold upd
      by_cases e : j = i
      · subst e
        rw [if_pos rfl, if_pos (by omega)]
      · rw [if_neg e, hW]
        by_cases q : j < i
        · rw [if_pos q, if_pos (by omega)]
        · rw [if_neg q, if_neg (by omega)]
  have := key 98 0 N (σ 86) rfl (by omega) (fun j => by rw [if_neg (by omega)])
  rw [uf_id] at this
  exact this
theorem back_lay (hN : 1000 ≤ N) {u : Nat} (hu : u < 2) {k : XS → Option XO} : fX10_back_L27 N (nI u) k N 0 σ = k (xUf σ 86 (fun j => if j < 98 then σ 88 (98 * u + j) else σ 86 j)) := by
  have key : ∀ (d i m : Nat) (W : Nat → Int32), i + d = 98 → d < m → (∀ j, W j = if j < i then σ 88 (98 * u + j) else σ 86 j) → fX10_back_L27 N (nI u) k m (nI i) (xUf σ 86 W) = k (xUf σ 86 (fun j => if j < 98 then σ 88 (98 * u + j) else σ 86 j)) := by
    intro d
    induction d with
    | zero =>
      intro i m W hi hm hW
      obtain ⟨m, rfl⟩ : ∃ q, m = q + 1 := ⟨m - 1, by omega⟩
      have e : W = fun j => if j < 98 then σ 88 (98 * u + j) else σ 86 j := by
        funext j; rw [hW, show i = 98 by omega]
      rw [fX10_back_L27, show (98 : Int32) = nI 98 from rfl, if_pos (nI_le (by omega) (by omega)), e]
    | succ d ih =>
      intro i m W hi hm hW
      obtain ⟨m, rfl⟩ : ∃ q, m = q + 1 := ⟨m - 1, by omega⟩
      rw [fX10_back_L27, show (98 : Int32) = nI 98 from rfl, if_neg (nI_ge (by omega) (by omega)), pk_mul, nI_add, xin_t (by omega) (by decide), gd_t, xLet_e, xin_t (by omega) (by decide), gd_t, nI_clamp (by omega), nI_clamp (by omega), uf_c (by omega), nI_1, up_uf]
      refine ih (i + 1) m _ (by omega) (by omega) (fun j => ?_)
      unfold upd
      by_cases e : j = i
      · subst e
        rw [if_pos rfl, if_pos (by omega)]
      · rw [if_neg e, hW]
        by_cases q : j < i
        · rw [if_pos q, if_pos (by omega)]
        · rw [if_neg q, if_neg (by omega)]
  have := key 98 0 N (σ 86) rfl (by omega) (fun j => by rw [if_neg (by omega)])
  rw [uf_id] at this
  exact this
theorem keep_lay (hN : 1000 ≤ N) {u : Nat} (hu : u < 2) {k : XS → Option XO} : fX10_keep_L15 N (nI u) k N 0 σ = k (xUf σ 88 (fun j => if 98 * u ≤ j ∧ j < 98 * u + 98 then σ 86 (j - 98 * u) else σ 88 j)) := by
  have key : ∀ (d i m : Nat) (W : Nat → Int32), i + d = 98 → d < m → (∀ j, W j = if 98 * u ≤ j ∧ j < 98 * u + i then σ 86 (j - 98 * u) else σ 88 j) → fX10_keep_L15 N (nI u) k m (nI i) (xUf σ 88 W) = k (xUf σ 88 (fun j => if 98 * u ≤ j ∧ j < 98 * u + 98 then σ 86 (j - 98 * u) else σ 88 j)) := by
    intro d
    induction d with
    | zero =>
      intro i m W hi hm hW
      obtain ⟨m, rfl⟩ : ∃ q, m = q + 1 := ⟨m - 1, by omega⟩
      have e : W = fun j => if 98 * u ≤ j ∧ j < 98 * u + 98 then σ 86 (j - 98 * u) else σ 88 j := by
        funext j; rw [hW, show i = 98 by omega]
      rw [fX10_keep_L15, show (98 : Int32) = nI 98 from rfl, if_pos (nI_le (by omega) (by omega)), e]
    | succ d ih =>
      intro i m W hi hm hW
      obtain ⟨m, rfl⟩ : ∃ q, m = q + 1 := ⟨m - 1, by omega⟩
      rw [fX10_keep_L15, show (98 : Int32) = nI 98 from rfl, if_neg (nI_ge (by omega) (by omega)), xin_t (by omega) (by decide), gd_t, xLet_e, pk_mul, nI_add, xin_t (by omega) (by decide), gd_t, nI_clamp (by omega), nI_clamp (by omega), uf_c (by omega), nI_1, up_uf]
      refine ih (i + 1) m _ (by omega) (by omega) (fun j => ?_)
      unfold upd
      by_cases e : j = 98 * u + i
      · subst e
        rw [if_pos rfl, if_pos (by omega)]
        exact congrArg _ (by omega)
      · rw [if_neg e, hW]
        by_cases q : 98 * u ≤ j ∧ j < 98 * u + i
        · rw [if_pos q, if_pos (by omega)]
        · rw [if_neg q, if_neg (by omega)]
  have := key 98 0 N (σ 88) rfl (by omega) (fun j => by rw [if_neg (by omega)])
  rw [uf_id] at this
  exact this
theorem xo_e {v w : Int32} {τ : XS} (h : v = w) : (some (v, τ) : Option XO) = some (w, τ) := by rw [h]
theorem nar1 : vp_nar .boolean 1 = nI 1 := rfl
end
theorem sim_undo {N : Nat} (hN : 1000 ≤ N) : Sim19 N RR := by
  intro σ hR
  obtain ⟨A, h1, h2, h3, ⟨⟨u, nx, u1, u2, u3, u4, u5, u6⟩, u7⟩, h5, h6, h7⟩ := id hR
  by_cases q : u = 0
  · subst q
    refine sim_mk (f := fun σ => fX9_undo N σ) (g := fun σ => fX10_undo N σ) (-4) σ σ ?_ ?_ hR
    · show fX9_undo N σ = _
      unfold fX9_undo
      rw [u3, if_pos (by rfl)]
    · show fX10_undo N σ = _
      unfold fX10_undo
      rw [u4, if_pos (by rfl)]
  · have hu0 : ¬ nI u = 0 := by rw [l0, nI_eq (by omega) (by omega)]; exact q
    have hp : (nx + 7) % 8 < 8 := Nat.mod_lt _ (by decide)
    have fc : ∃ σ1, fX9_undo N σ = some (nI (u - 1), σ1) ∧ σ1 29 4 = nI ((nx + 7) % 8) ∧ σ1 29 5 = nI (u - 1) ∧ (∀ k, k < 14 → σ1 30 k = σ (32 + (nx + 7) % 8) k) ∧ ∀ c k, c ≠ 29 → c ≠ 30 → σ1 c k = σ c k := by
      have hJ : ∃ σ1, fX0_takeBack_J28 N (nI ((nx + 7) % 8)) σ = some (nI (u - 1), σ1) ∧ σ1 29 4 = nI ((nx + 7) % 8) ∧ σ1 29 5 = nI (u - 1) ∧ (∀ k, k < 14 → σ1 30 k = σ (32 + (nx + 7) % 8) k) ∧ ∀ c k, c ≠ 29 → c ≠ 30 → σ1 c k = σ c k := by
        unfold fX0_takeBack_J28
        rw [xLet_e, up_s, xin_t hp (by decide), gd_t, xLet_e, xLet_e, nI_clamp (by omega)]
        have e5 : (xUf (xUp σ 29 4 (nI ((nx + 7) % 8))) 30 (va_cpy ((xUp σ 29 4 (nI ((nx + 7) % 8))) (32 + (nx + 7) % 8)) ((xUp σ 29 4 (nI ((nx + 7) % 8))) 30) (0 : Int32).toNatClampNeg (0 : Int32).toNatClampNeg (14 : Int32).toNatClampNeg)) 29 5 = nI u := by
          rw [uf_c (by omega), up_c (by omega)]; exact u3
        rw [e5, l1, pk_sub (by omega)]
        refine ⟨_, xo_e up_s, ?_, up_s, fun k hk => ?_, fun c k hc hc2 => ?_⟩
        · rw [up_c (by omega), uf_c (by omega), up_s]
        · rw [up_c (by omega), uf_s, cpy14 hk, up_c (by omega)]
        · rw [up_c (by omega), uf_c hc2, up_c (by omega)]
      obtain ⟨σ1, j1, j2⟩ := hJ
      refine ⟨σ1, ?_, j2⟩
      unfold fX9_undo
      rw [u3, if_neg hu0]
      unfold fX0_takeBack
      rw [u5]
      by_cases z : nx = 0
      · subst z
        rw [if_pos (by decide)]
        unfold fX0_takeBack_J17
        exact (congrArg (fun t => xB t _) j1)
      · rw [if_neg (by rw [l0]; exact nI_nle (by omega) (by omega)), show (8 : Int32) = nI 8 from rfl, if_pos (nI_lt u2 (by decide)), l1, pk_sub (by omega), show nx - 1 = (nx + 7) % 8 by omega]
        exact (congrArg (fun t => xB t _) j1)
    obtain ⟨σ1, f1, f2, f3, f4, f5⟩ := fc
    have g1 : σ1 85 2 = nI u := (f5 _ _ (by omega) (by omega)).trans u4
    have fm : ∃ σ2, fX10_undo N σ1 = some (nI (u - 1), σ2) ∧ σ2 85 2 = nI (u - 1) ∧ (∀ k, k < 98 → σ2 86 k = σ 87 (98 * (u - 1) + k)) ∧ ∀ c k, c ≠ 86 → (c ≠ 85 ∨ k ≠ 2) → σ2 c k = σ1 c k := by
      unfold fX10_undo
      rw [g1, if_neg hu0, xLet_e, l1, pk_sub (by omega), undo_lay hN (u := u - 1) (by omega) up_s]
      refine ⟨_, xo_e ?_, ?_, fun k hk => ?_, fun c k hc hc2 => ?_⟩
      · rw [uf_c (by omega), up_s]
      · rw [uf_c (by omega), up_s]
      · rw [uf_s, if_pos hk, up_c (by omega), f5 _ _ (by omega) (by omega)]
      · rw [uf_c hc, up_c (by omega)]
    obtain ⟨σ2, s1, s2, s3, s4⟩ := fm
    have fr : ∀ c k, c ≠ 29 → c ≠ 30 → c ≠ 86 → (c ≠ 85 ∨ k ≠ 2) → σ2 c k = σ c k := fun c k g1 g2 g3 g4 => (s4 _ _ g3 g4).trans (f5 _ _ g1 g2)
    have hs0 := u6 0 (by omega)
    refine sim_mk (f := fun σ => fX9_undo N σ) (g := fun σ => fX10_undo N σ) _ _ _ f1 s1 ⟨A, h1, h2.eq (fun c k g1 g2 => fr c k (by omega) (by omega) (by omega) (by omega)), hs0.eqL h1 (fun k hk => by rw [s4 _ _ (by omega) (by omega), f4 k hk]; rfl) (fun k hk => by rw [s3 k hk]; rfl), ⟨⟨u - 1, (nx + 7) % 8, by omega, hp, (s4 _ _ (by omega) (by omega)).trans f3, s2, (s4 _ _ (by omega) (by omega)).trans f2, fun i hi => ?_⟩, fun k hk => ?_⟩, h5.eq (fun c k _ => fr c k (by omega) (by omega) (by omega) (by omega)) (fr _ _ (by omega) (by omega) (by omega) (by omega)), h6.eq (fun c k _ => fr c k (by omega) (by omega) (by omega) (by omega)) (fr _ _ (by omega) (by omega) (by omega) (by omega)) (fr _ _ (by omega) (by omega) (by omega) (by omega)), h7.eq (fun c k _ => fr c k (by omega) (by omega) (by omega) (by omega)) (fr _ _ (by omega) (by omega) (by omega) (by omega)) (fr _ _ (by omega) (by omega) (by omega) (by omega)) (fr _ _ (by omega) (by omega) (by omega) (by omega)) (fr _ _ (by omega) (by omega) (by omega) (by omega))⟩
    · have e : ((nx + 7) % 8 + 7 - i) % 8 = (nx + 7 - (i + 1)) % 8 := by omega
      rw [e]
      exact (u6 (i + 1) (by omega)).eq (fun k => fr _ _ (by omega) (by omega) (by omega) (by omega)) (fun k => by rw [fr _ _ (by omega) (by omega) (by omega) (by omega)]; exact congrArg _ (by omega))
    · obtain ⟨b, b1, b2, b3, b4⟩ := u7 k hk
      exact ⟨b, b1, (fr _ _ (by omega) (by omega) (by omega) (by omega)).trans b2, (fr _ _ (by omega) (by omega) (by omega) (by omega)).trans b3, fun hb => (b4 hb).eq (fun j => fr _ _ (by omega) (by omega) (by omega) (by omega)) (fun j => fr _ _ (by omega) (by omega) (by omega) (by omega))⟩
theorem sim_keep {N : Nat} (hN : 1000 ≤ N) : Sim20 N RR := by
  intro σ a hR
  obtain ⟨A, h1, h2, h3, ⟨⟨u, nx, u1, u2, u3, u4, u5, u6⟩, u7⟩, h5, h6, h7⟩ := id hR
  obtain ⟨⟨d, d1, d2, d3⟩, p1, p2, p3, p4⟩ := id h3
  rcases or_assoc.mpr (icase a 2 (by decide)) with ha | ⟨k, hk, rfl⟩
  · refine sim_mk (f := fun σ => fX9_keep N σ a) (g := fun σ => fX10_keep N σ a) (-2) σ σ ?_ ?_ hR
    · show fX9_keep N σ a = _
      unfold fX9_keep
      by_cases h0 : a < 0
      · rw [if_pos h0]
      · rw [if_neg h0, if_neg (by rcases ha with q | q; exact absurd q h0; exact Int32.not_lt.mpr q)]
    · show fX10_keep N σ a = _
      unfold fX10_keep
      rw [show (1 : Int64) = (nI 2 - 1).toInt64 from rfl, ref_test (by decide), xB_s, ite1, if_neg (out_ex ha (by decide))]
  · have fc : ∃ σ1, fX9_keep N σ (nI k) = some (nI d, σ1) ∧ σ1 43 k = nI 1 ∧ (∀ j, j < 14 → σ1 (41 + k) j = σ 30 j) ∧ ∀ c j, c ≠ 41 + k → (c ≠ 43 ∨ j ≠ k) → σ1 c j = σ c j := by
      unfold fX9_keep
      rw [if_neg (nI_pos (by omega)), l2, if_pos (nI_lt hk (by decide))]
      unfold fX0_store
      rw [if_neg (nI_pos (by omega)), l2, if_neg (nI_ge hk (by decide)), xin_t hk (by decide), gd_t, xLet_e, xLet_e, gd_t, x014, gd_t, xB_s, nI_clamp (by omega), nar1]
      refine ⟨_, xo_e ?_, up_s, fun j hj => ?_, fun c j hc hc2 => ?_⟩
      · rw [c0, up_c (by omega), uf_c (by omega), d2]
      · rw [up_c (by omega), uf_s, cpy14 hj]
      · rw [up_c (by omega), uf_c hc]
    obtain ⟨σ1, f1, f2, f3, f4⟩ := fc
    have fm : ∃ σ2, fX10_keep N σ1 (nI k) = some (nI d, σ2) ∧ σ2 89 k = nI 1 ∧ (∀ j, j < 98 → σ2 88 (98 * k + j) = σ 86 j) ∧ (∀ i j, i < 2 → i ≠ k → j < 98 → σ2 88 (98 * i + j) = σ 88 (98 * i + j)) ∧ ∀ c j, c ≠ 88 → (c ≠ 89 ∨ j ≠ k) → σ2 c j = σ1 c j := by
      unfold fX10_keep
      rw [show (1 : Int64) = (nI 2 - 1).toInt64 from rfl, ref_test (by decide), xB_s, ite1, if_pos ⟨k, hk, rfl⟩, keep_lay hN hk, xLet_e, xin_t hk (by decide), gd_t, x498, gd_t, nI_clamp (by omega), nar1]
      refine ⟨_, xo_e ?_, up_s, fun j hj => ?_, fun i j hi hik hj => ?_, fun c j hc hc2 => ?_⟩
      · rw [c4, up_c (by omega), uf_c (by omega), f4 _ _ (by omega) (by omega), d3]
      · rw [up_c (by omega), uf_s, if_pos (by omega), f4 _ _ (by omega) (by omega)]
        exact congrArg _ (by omega)
      · rw [up_c (by omega), uf_s, if_neg (by omega), f4 _ _ (by omega) (by omega)]
      · rw [up_c (by omega), uf_c hc]
    obtain ⟨σ2, s1, s2, s3, s5, s4⟩ := fm
    have fr : ∀ c j, c ≠ 41 + k → (c ≠ 43 ∨ j ≠ k) → c ≠ 88 → (c ≠ 89 ∨ j ≠ k) → σ2 c j = σ c j := fun c j g1 g2 g3 g4 => (s4 _ _ g3 g4).trans (f4 _ _ g1 g2)
    refine sim_mk (f := fun σ => fX9_keep N σ (nI k)) (g := fun σ => fX10_keep N σ (nI k)) _ _ _ f1 s1 ⟨A, h1, h2.eq (fun c k g1 g2 => fr _ _ (by omega) (by omega) (by omega) (by omega)), h3.eq (fun j => fr _ _ (by omega) (by omega) (by omega) (by omega)) (fun j => fr _ _ (by omega) (by omega) (by omega) (by omega)), ⟨⟨u, nx, u1, u2, (fr _ _ (by omega) (by omega) (by omega) (by omega)).trans u3, (fr _ _ (by omega) (by omega) (by omega) (by omega)).trans u4, (fr _ _ (by omega) (by omega) (by omega) (by omega)).trans u5, fun i hi => (u6 i hi).eq (fun j => fr _ _ (by omega) (by omega) (by omega) (by omega)) (fun j => fr _ _ (by omega) (by omega) (by omega) (by omega))⟩, fun i hi => ?_⟩, h5.eq (fun c k _ => fr _ _ (by omega) (by omega) (by omega) (by omega)) (fr _ _ (by omega) (by omega) (by omega) (by omega)), h6.eq (fun c k _ => fr _ _ (by omega) (by omega) (by omega) (by omega)) (fr _ _ (by omega) (by omega) (by omega) (by omega)) (fr _ _ (by omega) (by omega) (by omega) (by omega)), h7.eq (fun c k _ => fr _ _ (by omega) (by omega) (by omega) (by omega)) (fr _ _ (by omega) (by omega) (by omega) (by omega)) (fr _ _ (by omega) (by omega) (by omega) (by omega)) (fr _ _ (by omega) (by omega) (by omega) (by omega)) (fr _ _ (by omega) (by omega) (by omega) (by omega))⟩
    by_cases e : i = k
    · subst e
      exact ⟨1, Nat.le_refl _, (s4 _ _ (by omega) (by omega)).trans f2, s2, fun _ => h3.eqL h1 (fun j hj => (s4 _ _ (by omega) (by omega)).trans (f3 j hj)) (fun j hj => s3 j hj)⟩
    · obtain ⟨b, b1, b2, b3, b4⟩ := u7 i hi
      exact ⟨b, b1, (fr _ _ (by omega) (by omega) (by omega) (by omega)).trans b2, (fr _ _ (by omega) (by omega) (by omega) (by omega)).trans b3, fun hb => (b4 hb).eqL h1 (fun j _ => fr _ _ (by omega) (by omega) (by omega) (by omega)) (fun j hj => s5 i j hi e hj)⟩
theorem sim_back {N : Nat} (hN : 1000 ≤ N) : Sim21 N RR := by
  intro σ a hR
  obtain ⟨A, h1, h2, h3, ⟨⟨u, nx, u1, u2, u3, u4, u5, u6⟩, u7⟩, h5, h6, h7⟩ := id hR
  rcases or_assoc.mpr (icase a 2 (by decide)) with ha | ⟨k, hk, rfl⟩
  · refine sim_mk (f := fun σ => fX9_back N σ a) (g := fun σ => fX10_back N σ a) (-2) σ σ ?_ ?_ hR
    · show fX9_back N σ a = _
      unfold fX9_back
      by_cases h0 : a < 0
      · rw [if_pos h0]
      · rw [if_neg h0, if_neg (by rcases ha with q | q; exact absurd q h0; exact Int32.not_lt.mpr q)]
    · show fX10_back N σ a = _
      unfold fX10_back
      rw [show (1 : Int64) = (nI 2 - 1).toInt64 from rfl, ref_test (by decide), xB_s, ite1, if_neg (out_ex ha (by decide))]
  · obtain ⟨b, b1, b2, b3, b4⟩ := u7 k hk
    have hst : fX0_isStored N σ (nI k) = some (b2i (decide (b = 1)), σ) := by
      unfold fX0_isStored
      rw [if_neg (nI_pos (by omega)), l2, if_neg (nI_ge hk (by decide)), xin_t hk (by decide), gd_t, nI_clamp (by omega), b2]
      rcases (show b = 0 ∨ b = 1 by omega) with rfl | rfl <;> rfl
    have hin : ∀ τ, fX10_back N τ (nI k) = if τ 89 k = 0 then some (-4, τ) else fX10_back_L27 N (nI k) (fun m7 => xLet (xUp m7 85 2 0) (fun m8 => gd (xin 4 98) (some ((m8 86 (4 : Int32).toNatClampNeg), m8)))) N 0 τ := by
      intro τ
      unfold fX10_back
      rw [show (1 : Int64) = (nI 2 - 1).toInt64 from rfl, ref_test (by decide), xB_s, ite1, if_pos ⟨k, hk, rfl⟩, xin_t hk (by decide), gd_t, nI_clamp (by omega)]
    by_cases e : b = 1
    · subst e
      have hs := b4 rfl
      obtain ⟨⟨d, d1, d2, d3⟩, -⟩ := id hs
      have fc : ∃ σ1, fX9_back N σ (nI k) = some (nI d, σ1) ∧ σ1 29 5 = nI 0 ∧ (∀ j, j < 14 → σ1 30 j = σ (41 + k) j) ∧ ∀ c j, c ≠ 30 → (c ≠ 29 ∨ j ≠ 5) → σ1 c j = σ c j := by
        unfold fX9_back
        rw [if_neg (nI_pos (by omega)), l2, if_pos (nI_lt hk (by decide)), hst, xB_s, b2i0, if_pos (by decide)]
        unfold fX0_restore
        rw [hst, xB_s, b2i0, if_pos (by decide), xin_t hk (by decide), gd_t, xLet_e, xLet_e, x014, gd_t, xB_s, nI_clamp (by omega)]
        refine ⟨_, xo_e ?_, up_s, fun j hj => ?_, fun c j hc hc2 => ?_⟩
        · rw [c0, up_c (by omega), uf_s]
          exact (cpy14 (by omega)).trans d2
        · rw [up_c (by omega), uf_s, cpy14 hj]
        · rw [up_c (by omega), uf_c hc]
      obtain ⟨σ1, f1, f2, f3, f4⟩ := fc
      have fm : ∃ σ2, fX10_back N σ1 (nI k) = some (nI d, σ2) ∧ σ2 85 2 = nI 0 ∧ (∀ j, j < 98 → σ2 86 j = σ 88 (98 * k + j)) ∧ ∀ c j, c ≠ 86 → (c ≠ 85 ∨ j ≠ 2) → σ2 c j = σ1 c j := by
        rw [hin, f4 _ _ (by omega) (by omega), b3, if_neg (by decide), back_lay hN hk, xLet_e, x498, gd_t]
        refine ⟨_, xo_e ?_, up_s, fun j hj => ?_, fun c j hc hc2 => ?_⟩
        · rw [c4, up_c (by omega), uf_s, if_pos (by omega), f4 _ _ (by omega) (by omega)]
          exact d3
        · rw [up_c (by omega), uf_s, if_pos hj, f4 _ _ (by omega) (by omega)]
        · rw [up_c (by omega), uf_c hc]
      obtain ⟨σ2, s1, s2, s3, s4⟩ := fm
      have fr : ∀ c j, c ≠ 30 → (c ≠ 29 ∨ j ≠ 5) → c ≠ 86 → (c ≠ 85 ∨ j ≠ 2) → σ2 c j = σ c j := fun c j g1 g2 g3 g4 => (s4 _ _ g3 g4).trans (f4 _ _ g1 g2)
      refine sim_mk (f := fun σ => fX9_back N σ (nI k)) (g := fun σ => fX10_back N σ (nI k)) _ _ _ f1 s1 ⟨A, h1, h2.eq (fun c k g1 g2 => fr _ _ (by omega) (by omega) (by omega) (by omega)), hs.eqL h1 (fun j hj => (s4 _ _ (by omega) (by omega)).trans (f3 j hj)) (fun j hj => s3 j hj), ⟨⟨0, nx, by omega, u2, (s4 _ _ (by omega) (by omega)).trans f2, s2, (fr _ _ (by omega) (by omega) (by omega) (by omega)).trans u5, fun i hi => by omega⟩, fun i hi => ?_⟩, h5.eq (fun c k _ => fr _ _ (by omega) (by omega) (by omega) (by omega)) (fr _ _ (by omega) (by omega) (by omega) (by omega)), h6.eq (fun c k _ => fr _ _ (by omega) (by omega) (by omega) (by omega)) (fr _ _ (by omega) (by omega) (by omega) (by omega)) (fr _ _ (by omega) (by omega) (by omega) (by omega)), h7.eq (fun c k _ => fr _ _ (by omega) (by omega) (by omega) (by omega)) (fr _ _ (by omega) (by omega) (by omega) (by omega)) (fr _ _ (by omega) (by omega) (by omega) (by omega)) (fr _ _ (by omega) (by omega) (by omega) (by omega)) (fr _ _ (by omega) (by omega) (by omega) (by omega))⟩
      obtain ⟨b, b1, b2, b3, b4⟩ := u7 i hi
      exact ⟨b, b1, (fr _ _ (by omega) (by omega) (by omega) (by omega)).trans b2, (fr _ _ (by omega) (by omega) (by omega) (by omega)).trans b3, fun hb => (b4 hb).eq (fun j => fr _ _ (by omega) (by omega) (by omega) (by omega)) (fun j => fr _ _ (by omega) (by omega) (by omega) (by omega))⟩
    · have e0 : b = 0 := by omega
      subst e0
      refine sim_mk (f := fun σ => fX9_back N σ (nI k)) (g := fun σ => fX10_back N σ (nI k)) (-4) σ σ ?_ ?_ hR
      · show fX9_back N σ (nI k) = _
        unfold fX9_back
        rw [if_neg (nI_pos (by omega)), l2, if_pos (nI_lt hk (by decide)), hst, xB_s, b2i0, if_neg (by decide)]
      · show fX10_back N σ (nI k) = _
        rw [hin, b3, if_pos (by rfl)]
