/-! SETTLING: prose, declare -/
theorem SN.pay {A : Nat → Nat → Nat} {f g f' g' : Nat → Int32} {d a t : Nat} {v : Int32} (hW : TW A) (h : SN A f g) (hd : d < 99) (h0 : f 0 = nI d) (ha : a < 6) (ht : t ≤ 3)
    (e0 : f' 0 = nI (d + 1)) (e1 : f' 1 = f 1 + v) (e2 : f' (2 + a) = nI t) (e3 : ∀ k, k ≠ 0 → k ≠ 1 → k ≠ 2 + a → f' k = f k)
    (g0 : g' 4 = nI (d + 1)) (g1 : g' 5 = g 5 + v) (g2 : g' (48 + 3 * a) = nI t) (g3 : ∀ k, k ≠ 4 → k ≠ 5 → k ≠ 48 + 3 * a → g' k = g k) : SN A f' g' := by
  obtain ⟨-, p1, p2, p3, p4⟩ := h
  refine ⟨⟨d + 1, by omega, e0, g0⟩, by rw [e1, g1, p1], fun b hb => ?_, fun r hr => ?_, p4.day hW (fun k hk => g3 k (by omega) (by omega) (by omega))⟩
  · by_cases q : b = a
    · subst q
      exact ⟨t, ht, e2, g2⟩
    · obtain ⟨t, t1, t2, t3⟩ := p2 b hb
      exact ⟨t, t1, (e3 _ (by omega) (by omega) (by omega)).trans t2, (g3 _ (by omega) (by omega) (by omega)).trans t3⟩
  · obtain ⟨t, t1, t2, t3⟩ := p3 r hr
    exact ⟨t, t1, (e3 _ (by omega) (by omega) (by omega)).trans t2, (g3 _ (by omega) (by omega) (by omega)).trans t3⟩
theorem SN.use {A : Nat → Nat → Nat} {f g f' g' : Nat → Int32} {r n : Nat} (hW : TW A) (h : SN A f g) (hr : r < 6) (hn : n ≤ A 9 r)
    (e1 : f' (8 + r) = nI n) (e3 : ∀ k, k ≠ 8 + r → f' k = f k) (g1 : g' (67 + r) = nI n) (g3 : ∀ k, k ≠ 67 + r → g' k = g k) : SN A f' g' := by
  obtain ⟨⟨d, d1, d2, d3⟩, p1, p2, p3, p4⟩ := h
  refine ⟨⟨d, d1, (e3 _ (by omega)).trans d2, (g3 _ (by omega)).trans d3⟩, by rw [e3 _ (by omega), g3 _ (by omega), p1], fun b hb => ?_, fun q hq => ?_, p4.day hW (fun k hk => g3 k (by omega))⟩
  · obtain ⟨t, t1, t2, t3⟩ := p2 b hb
    exact ⟨t, t1, (e3 _ (by omega)).trans t2, (g3 _ (by omega)).trans t3⟩
  · by_cases z : q = r
    · subst z
      exact ⟨n, hn, e1, g1⟩
    · obtain ⟨t, t1, t2, t3⟩ := p3 q hq
      exact ⟨t, t1, (e3 _ (by omega)).trans t2, (g3 _ (by omega)).trans t3⟩
section
variable {N : Nat} {A : Nat → Nat → Nat} {σ σ1 τ σ2 ρ : XS}
/-- both remember, then the day's rows change alike -/
theorem RA.step {u nx : Nat} (h : RA A σ) (u1 : u ≤ 8) (u2 : nx < 8) (hr : ∀ i, i < u → SN A (σ (32 + (nx + 7 - i) % 8)) (fun k => σ 87 (98 * (u - 1 - i) + k)))
    (r2 : σ1 29 5 = nI (min (u + 1) 8)) (r3 : σ1 29 4 = nI ((nx + 1) % 8)) (r4 : ∀ k, k < 14 → σ1 (32 + nx) k = σ 30 k) (r5 : ∀ c k, c ≠ 29 → c ≠ 32 + nx → σ1 c k = σ c k)
    (ht : ∀ c k, c ≠ 30 → τ c k = σ1 c k)
    (s2 : σ2 85 2 = nI (min (u + 1) 8)) (s3 : ∀ k, k < 98 → σ2 87 (98 * (min (u + 1) 8 - 1) + k) = τ 86 k) (s4 : ∀ i k, 1 ≤ i → i < min (u + 1) 8 → k < 98 → σ2 87 (98 * (min (u + 1) 8 - 1 - i) + k) = τ 87 (98 * (u - 1 - (i - 1)) + k)) (s5 : ∀ c k, c ≠ 87 → (c ≠ 85 ∨ k ≠ 2) → σ2 c k = τ c k)
    (hρ : ∀ c k, c ≠ 86 → ρ c k = σ2 c k) (hS : SN A (τ 30) (ρ 86)) : RA A ρ := by
  obtain ⟨h1, h2, h3, h4, h5, h6, h7⟩ := h
  have fr : ∀ c k, c ≠ 29 → c ≠ 32 + nx → c ≠ 30 → c ≠ 86 → c ≠ 87 → (c ≠ 85 ∨ k ≠ 2) → ρ c k = σ c k := fun c k g1 g2 g3 g4 g5 g6 => by rw [hρ _ _ g4, s5 _ _ g5 g6, ht _ _ g3, r5 _ _ g1 g2]
  have b3 : ∀ k, ρ 30 k = τ 30 k := fun k => by rw [hρ _ _ (by omega), s5 _ _ (by omega) (by omega)]
  have eR : ∀ c k, c ≠ 30 → c ≠ 86 → c ≠ 87 → c ≠ 85 → ρ c k = σ1 c k := fun c k g1 g2 g3 g4 => by rw [hρ _ _ g2, s5 _ _ g3 (Or.inl g4), ht _ _ g1]
  refine ⟨h1, h2.eq (fun c k g1 g2 => fr c k (by omega) (by omega) (by omega) (by omega) (by omega) (by omega)), hS.eq b3 (fun _ => rfl), ?_, h5.eq (fun c k _ => fr c k (by omega) (by omega) (by omega) (by omega) (by omega) (by omega)) (fr _ _ (by omega) (by omega) (by omega) (by omega) (by omega) (by omega)), h6.eq (fun c k _ => fr c k (by omega) (by omega) (by omega) (by omega) (by omega) (by omega)) (fr _ _ (by omega) (by omega) (by omega) (by omega) (by omega) (by omega)) (fr _ _ (by omega) (by omega) (by omega) (by omega) (by omega) (by omega)), h7.eq (fun c k _ => fr c k (by omega) (by omega) (by omega) (by omega) (by omega) (by omega)) (fr _ _ (by omega) (by omega) (by omega) (by omega) (by omega) (by omega)) (fr _ _ (by omega) (by omega) (by omega) (by omega) (by omega) (by omega)) (fr _ _ (by omega) (by omega) (by omega) (by omega) (by omega) (by omega)) (fr _ _ (by omega) (by omega) (by omega) (by omega) (by omega) (by omega))⟩
  exact UD.rem h1 h3 u1 u2 hr h4.2 ((eR _ _ (by omega) (by omega) (by omega) (by omega)).trans r2) ((hρ _ _ (by omega)).trans s2) ((eR _ _ (by omega) (by omega) (by omega) (by omega)).trans r3) (fun k hk => (eR _ _ (by omega) (by omega) (by omega) (by omega)).trans (r4 k hk)) (fun q k g1 g2 => (eR _ _ (by omega) (by omega) (by omega) (by omega)).trans (r5 _ _ (by omega) (by omega))) (fun k hk => by rw [hρ _ _ (by omega), s3 k hk, ht _ _ (by omega), r5 _ _ (by omega) (by omega)]) (fun i k g1 g2 g3 => by rw [hρ _ _ (by omega), s4 i k g1 g2 g3, ht _ _ (by omega), r5 _ _ (by omega) (by omega)]) (fun c k g => fr c k (by omega) (by omega) (by omega) (by omega) (by omega) (by omega))
theorem settle_c {a : Nat} {t v : Int32} (ha : a < 6) : fX0_settle N σ (nI a) t v = some (v, xUp (xUp (xUp σ 30 (2 + a) t) 30 1 (σ 30 1 + v)) 30 0 (σ 30 0 + 1)) := by
  unfold fX0_settle
  rw [if_neg (nI_pos (by omega)), show (6 : Int32) = nI 6 from rfl, if_neg (nI_ge ha (by decide)), l2, nI_add, xin_t (by omega) (by decide), nI_clamp (by omega), xLet_e, gd_t]
  unfold fX0_settle_J19
  rw [x114, x014, gd_t, xLet_e, gd_t, gd_t, xLet_e, gd_t, c0, c1, up_c (by omega), up_c (by omega), up_c (by omega)]
theorem pays_m {a : Nat} {t v : Int32} (ha : a < 6) : fX10_pays N σ (nI a) t v = some (v, xUp (xUp (xUp σ 86 (48 + 3 * a) t) 86 5 (σ 86 5 + v)) 86 4 (σ 86 4 + 1)) := by
  have e : ((46 : Int32) + 3 * nI a) + 2 = nI (48 + 3 * a) := by
    rw [show (46 : Int32) = nI 46 from rfl, l3, l2, pk_mul, nI_add, nI_add]
    exact congrArg _ (by omega)
  unfold fX10_pays
  rw [e, xin_t (by omega) (by decide), nI_clamp (by omega), xLet_e, gd_t, x598, x498, gd_t, xLet_e, gd_t, gd_t, xLet_e, gd_t, c4, c5, up_c (by omega), up_c (by omega), up_c (by omega)]
end
theorem sim_prose {N : Nat} (hN : 1000 ≤ N) : Sim17 N RR := by
  intro σ a hR
  obtain ⟨A, hA⟩ := id hR
  obtain ⟨h1, h2, h3, ⟨⟨u, nx, u1, u2, u3, u4, u5, u6⟩, u7⟩, h5, h6, h7⟩ := id hA
  obtain ⟨wa1, wa2, wa3⟩ := hA.a
  obtain ⟨d, d1, d2, d3⟩ := hA.day
  by_cases hx : ∃ j, j < A 0 1 ∧ a = nI j
  · obtain ⟨j, hj, rfl⟩ := hx
    obtain ⟨t, t1, t2, t3⟩ := hA.fate (show j < 6 by omega)
    obtain ⟨⟨v1, -⟩, ⟨v2, -⟩, w1, w2, -⟩ := hA.ware hj
    have ex : ∃ i, i < A 0 1 ∧ nI j = nI i := ⟨j, hj, rfl⟩
    have e3 : ((46 : Int32) + 3 * nI j) = nI (46 + 3 * j) := by rw [show (46 : Int32) = nI 46 from rfl, l3, pk_mul, nI_add]
    have e5 : ((46 : Int32) + 3 * nI j) + 2 = nI (48 + 3 * j) := by
      rw [e3, l2, nI_add]
      exact congrArg _ (by omega)
    have hc : fX9_prose N σ (nI j) = if t = 0 then (if d = 99 then some (-5, σ) else xB (fX0_remember N σ) (fun _ m11 => xB (fX9_at N m11 7 (nI j)) (fun y13 m14 => xB (fX0_settle N m14 (nI j) 3 (3 * y13)) (fun y16 m17 => some (y16, m17))))) else some (-4, σ) := by
      unfold fX9_prose
      rw [isWare_c wa1 (by omega), xB_s, ite1, if_pos ex, fate_n (by omega), xB_s, t2, over_c d1 d2]
      by_cases z : t = 0
      · subst z
        rw [if_pos (by rfl), if_pos rfl, xB_s, b2i0]
        by_cases q : d = 99
        · rw [if_pos (decide_eq_true q), if_pos q]
        · rw [if_neg (by simpa using q), if_neg q]
      · rw [if_neg (by rw [l0, nI_eq (by omega) (by omega)]; exact z), if_neg z]
    have hm : ∀ τ : XS, τ 86 1 = nI (A 0 1) → τ 86 (48 + 3 * j) = nI t → τ 86 4 = nI d → fX10_prose N τ (nI j) = if t = 0 then (if d = 99 then some (-5, τ) else xB (fX10_remembers N τ) (fun _ m5 => gd (xin (46 + (3 * nI j)) 98) (xB (fX10_pays N m5 (nI j) 3 (3 * (m5 86 (46 + (3 * nI j)).toNatClampNeg))) (fun y7 m8 => some (y7, m8))))) else some (-4, τ) := by
      intro τ q1 q2 q3
      unfold fX10_prose
      rw [isWare_m q1 (by omega), xB_s, ite1, if_pos ex, e5, xin_t (by omega) (by decide), nI_clamp (by omega), gd_t, q2, x498, gd_t, c4, q3]
      by_cases z : t = 0
      · subst z
        rw [if_pos (by rfl), if_pos rfl]
        by_cases q : d = 99
        · subst q
          rw [if_pos (by rfl), if_pos rfl]
        · rw [if_neg (by rw [show (99 : Int32) = nI 99 from rfl, nI_eq (by omega) (by omega)]; exact q), if_neg q]
      · rw [if_neg (by rw [l0, nI_eq (by omega) (by omega)]; exact z), if_neg z]
    by_cases z : t = 0
    · by_cases q : d = 99
      · refine sim_mk (f := fun σ => fX9_prose N σ (nI j)) (g := fun σ => fX10_prose N σ (nI j)) (-5) σ σ ?_ ?_ hR
        · show fX9_prose N σ (nI j) = _
          rw [hc, if_pos z, if_pos q]
        · show fX10_prose N σ (nI j) = _
          rw [hm σ wa2 t3 d3, if_pos z, if_pos q]
      · obtain ⟨σ1, r1, r2, r3, r4, r5⟩ := rem_c (N := N) u1 u2 u3 u5
        have ea : σ1 7 j = nI (A 6 j) := (r5 _ _ (by omega) (by omega)).trans v1
        have fc : fX9_prose N σ (nI j) = some (nI (3 * A 6 j), xUp (xUp (xUp σ1 30 (2 + j) (nI 3)) 30 1 (σ1 30 1 + nI (3 * A 6 j))) 30 0 (σ1 30 0 + 1)) := by
          rw [hc, if_pos z, if_neg q, r1, xB_s, at_n (len := 6) rfl (by omega) (by decide), xB_s, ea, l3, pk_mul, settle_c (by omega), xB_s]
        generalize hτ : xUp (xUp (xUp σ1 30 (2 + j) (nI 3)) 30 1 (σ1 30 1 + nI (3 * A 6 j))) 30 0 (σ1 30 0 + 1) = τ at fc
        have ft : ∀ c k, c ≠ 30 → τ c k = σ1 c k := fun c k hc => by rw [← hτ, up_c (by omega), up_c (by omega), up_c (by omega)]
        have fs : ∀ c k, c ≠ 29 → c ≠ 32 + nx → c ≠ 30 → τ c k = σ c k := fun c k g1 g2 g3 => (ft _ _ g3).trans (r5 _ _ g1 g2)
        obtain ⟨σ2, s1, s2, s3, s4, s5⟩ := rem_m hN u1 (show τ 85 2 = nI u from (fs _ _ (by omega) (by omega) (by omega)).trans u4)
        have f86 : ∀ k, σ2 86 k = σ 86 k := fun k => (s5 _ _ (by omega) (by omega)).trans (fs _ _ (by omega) (by omega) (by omega))
        have fm : fX10_prose N τ (nI j) = some (nI (3 * A 6 j), xUp (xUp (xUp σ2 86 (48 + 3 * j) (nI 3)) 86 5 (σ2 86 5 + nI (3 * A 6 j))) 86 4 (σ2 86 4 + 1)) := by
          rw [hm τ ((fs _ _ (by omega) (by omega) (by omega)).trans wa2) ((fs _ _ (by omega) (by omega) (by omega)).trans t3) ((fs _ _ (by omega) (by omega) (by omega)).trans d3), if_pos z, if_neg q, s1, xB_s, e3, xin_t (by omega) (by decide), gd_t, nI_clamp (by omega), f86, v2, l3, pk_mul, pays_m (by omega), xB_s]
        have h30 : ∀ k, σ1 30 k = σ 30 k := fun k => r5 _ _ (by omega) (by omega)
        refine sim_mk (f := fun σ => fX9_prose N σ (nI j)) (g := fun σ => fX10_prose N σ (nI j)) _ _ _ fc fm ⟨A, hA.step u1 u2 u6 r2 r3 r4 r5 ft s2 s3 s4 s5 (fun c k hc => by rw [up_c (by omega), up_c (by omega), up_c (by omega)]) ?_⟩
        refine SN.pay (f := σ1 30) (g := σ2 86) (d := d) (a := j) (t := 3) (v := nI (3 * A 6 j)) h1 (h3.eq h30 f86) (by omega) ((h30 _).trans d2) (by omega) (by omega) ?_ ?_ ?_ (fun k g1 g2 g3 => ?_) ?_ ?_ ?_ (fun k g1 g2 g3 => ?_)
        · rw [← hτ, up_s, h30, d2, nI_1]
        · rw [← hτ, up_c (by omega), up_s]
        · rw [← hτ, up_c (by omega), up_c (by omega), up_s]
        · rw [← hτ, up_c (by omega), up_c (by omega), up_c (by omega)]
        · rw [up_s, f86, d3, nI_1]
        · rw [up_c (by omega), up_s]
        · rw [up_c (by omega), up_c (by omega), up_s]
        · rw [up_c (by omega), up_c (by omega), up_c (by omega)]
    · refine sim_mk (f := fun σ => fX9_prose N σ (nI j)) (g := fun σ => fX10_prose N σ (nI j)) (-4) σ σ ?_ ?_ hR
      · show fX9_prose N σ (nI j) = _
        rw [hc, if_neg z]
      · show fX10_prose N σ (nI j) = _
        rw [hm σ wa2 t3 d3, if_neg z]
  · refine sim_mk (f := fun σ => fX9_prose N σ a) (g := fun σ => fX10_prose N σ a) (-2) σ σ ?_ ?_ hR
    · show fX9_prose N σ a = _
      unfold fX9_prose
      rw [isWare_c wa1 (by omega), xB_s, ite1, if_neg hx]
    · show fX10_prose N σ a = _
      unfold fX10_prose
      rw [isWare_m wa2 (by omega), xB_s, ite1, if_neg hx]
