/-! DAYS: what is remembered, undone, kept -/
theorem uf_s {σ : XS} {c : Nat} {f : Nat → Int32} {k : Nat} : xUf σ c f c k = f k := by unfold xUf; rw [if_pos rfl]
theorem uf_c {σ : XS} {c d : Nat} {f : Nat → Int32} {k : Nat} (h : d ≠ c) : xUf σ c f d k = σ d k := by unfold xUf; rw [if_neg h]
theorem uf_id {σ : XS} {c : Nat} : xUf σ c (σ c) = σ := by
  funext d
  unfold xUf
  by_cases h : d = c
  · rw [if_pos h, h]
  · rw [if_neg h]
theorem up_uf {σ : XS} {c k : Nat} {f : Nat → Int32} {v : Int32} : xUp (xUf σ c f) c k v = xUf σ c (upd f k v) := by
  funext d
  unfold xUp xUf
  by_cases h : d = c
  · rw [if_pos h, if_pos h, if_pos rfl]
  · rw [if_neg h, if_neg h, if_neg h]
theorem cpy14 {f g : Nat → Int32} {k : Nat} (h : k < 14) : va_cpy f g (0 : Int32).toNatClampNeg (0 : Int32).toNatClampNeg (14 : Int32).toNatClampNeg k = f k := by
  show va_cpy f g 0 0 14 k = f k
  rw [pk_cpy_in (by omega) (by omega)]
  congr 1; omega
theorem TM.eqL {A : Nat → Nat → Nat} {g g' : Nat → Int32} (hW : TW A) (h : TM A g) (e : ∀ k, k < 98 → g' k = g k) : TM A g' := by
  obtain ⟨a1, a2, a3, a4, a5, a6, a7, a8, a9⟩ := h
  have w1 := hW.1
  have w2 := hW.2.1
  have w3 := hW.2.2.1
  refine ⟨(e _ (by omega)).trans a1, (e _ (by omega)).trans a2, (e _ (by omega)).trans a3, (e _ (by omega)).trans a4, fun w hw => ?_, fun p hp => (e _ (by omega)).trans (a6 p hp), fun a ha => ?_, fun c hc => (e _ (by omega)).trans (a8 c hc), fun r hr => (e _ (by omega)).trans (a9 r hr)⟩
  · obtain ⟨q1, q2, q3, q4⟩ := a5 w hw
    exact ⟨(e _ (by omega)).trans q1, (e _ (by omega)).trans q2, (e _ (by omega)).trans q3, (e _ (by omega)).trans q4⟩
  · obtain ⟨q1, q2⟩ := a7 a ha
    exact ⟨(e _ (by omega)).trans q1, (e _ (by omega)).trans q2⟩
theorem SN.eqL {A : Nat → Nat → Nat} {f f' g g' : Nat → Int32} (hW : TW A) (h : SN A f g) (hf : ∀ k, k < 14 → f' k = f k) (hg : ∀ k, k < 98 → g' k = g k) : SN A f' g' := by
  obtain ⟨⟨d, d1, d2, d3⟩, h2, h3, h4, h5⟩ := h
  refine ⟨⟨d, d1, (hf _ (by omega)).trans d2, (hg _ (by omega)).trans d3⟩, by rw [hf _ (by omega), hg _ (by omega)]; exact h2, fun a ha => ?_, fun r hr => ?_, h5.eqL hW hg⟩
  · obtain ⟨t, t1, t2, t3⟩ := h3 a ha
    exact ⟨t, t1, (hf _ (by omega)).trans t2, (hg _ (by omega)).trans t3⟩
  · obtain ⟨t, t1, t2, t3⟩ := h4 r hr
    exact ⟨t, t1, (hf _ (by omega)).trans t2, (hg _ (by omega)).trans t3⟩
/-- the told part reads neither the day nor what was paid, nor fates, nor uses -/
theorem TM.day {A : Nat → Nat → Nat} {g g' : Nat → Int32} (hW : TW A) (h : TM A g) (e : ∀ k, k ≠ 4 ∧ k ≠ 5 ∧ k ≠ 48 ∧ k ≠ 51 ∧ k ≠ 54 ∧ k ≠ 57 ∧ k ≠ 60 ∧ k ≠ 63 ∧ ¬ (67 ≤ k ∧ k ≤ 72) → g' k = g k) : TM A g' := by
  obtain ⟨a1, a2, a3, a4, a5, a6, a7, a8, a9⟩ := h
  have w1 := hW.1
  have w2 := hW.2.1
  have w3 := hW.2.2.1
  refine ⟨(e _ (by omega)).trans a1, (e _ (by omega)).trans a2, (e _ (by omega)).trans a3, (e _ (by omega)).trans a4, fun w hw => ?_, fun p hp => (e _ (by omega)).trans (a6 p hp), fun a ha => ?_, fun c hc => (e _ (by omega)).trans (a8 c hc), fun r hr => (e _ (by omega)).trans (a9 r hr)⟩
  · obtain ⟨q1, q2, q3, q4⟩ := a5 w hw
    exact ⟨(e _ (by omega)).trans q1, (e _ (by omega)).trans q2, (e _ (by omega)).trans q3, (e _ (by omega)).trans q4⟩
  · obtain ⟨q1, q2⟩ := a7 a ha
    exact ⟨(e _ (by omega)).trans q1, (e _ (by omega)).trans q2⟩
section
variable {N : Nat} {A : Nat → Nat → Nat} {σ : XS}
/-- the class remembers -/
theorem rem_c {u nx : Nat} (hu : u ≤ 8) (hx : nx < 8) (h1 : σ 29 5 = nI u) (h2 : σ 29 4 = nI nx) : ∃ σ1, fX0_remember N σ = some (0, σ1) ∧ σ1 29 5 = nI (min (u + 1) 8) ∧ σ1 29 4 = nI ((nx + 1) % 8) ∧ (∀ k, k < 14 → σ1 (32 + nx) k = σ 30 k) ∧ ∀ c k, c ≠ 29 → c ≠ 32 + nx → σ1 c k = σ c k := by
  have hmin : ∀ v : Int32, v = nI u → (if 8 < v + 1 then (8 : Int32) else v + 1) = nI (min (u + 1) 8) := by
    rintro v rfl
    rw [nI_1, show (8 : Int32) = nI 8 from rfl]
    by_cases q : 8 < u + 1
    · rw [if_pos (nI_lt q (by omega)), Nat.min_eq_right (by omega)]
    · rw [if_neg (nI_nlt (by omega) (by omega)), Nat.min_eq_left (by omega)]
  have e1 : fX0_remember N σ = fX0_remember_J21 N σ := by
    unfold fX0_remember
    rw [h2, if_neg (nI_pos (by omega)), show (8 : Int32) = nI 8 from rfl, if_pos (nI_lt hx (by decide))]
  rw [e1]
  unfold fX0_remember_J21
  rw [h2, xin_t hx (by decide), gd_t, xLet_e, nI_clamp (by omega)]
  have g4 : (xUf σ (32 + nx) (va_cpy (σ 30) (σ (32 + nx)) (0 : Int32).toNatClampNeg (0 : Int32).toNatClampNeg (14 : Int32).toNatClampNeg)) 29 4 = nI nx := by rw [uf_c (by omega)]; exact h2
  have g5 : (xUf σ (32 + nx) (va_cpy (σ 30) (σ (32 + nx)) (0 : Int32).toNatClampNeg (0 : Int32).toNatClampNeg (14 : Int32).toNatClampNeg)) 29 5 = nI u := by rw [uf_c (by omega)]; exact h1
  rw [g4]
  by_cases q : nx = 7
  · subst q
    rw [if_pos (by rfl), xLet_e, xLet_e, up_c (by omega), g5, hmin _ rfl]
    refine ⟨_, rfl, up_s, ?_, fun k hk => ?_, fun c k hc hc2 => ?_⟩
    · rw [up_c (by omega), up_s]; rfl
    · rw [up_c (by omega), up_c (by omega), uf_s, cpy14 hk]
    · rw [up_c (by omega), up_c (by omega), uf_c hc2]
  · rw [if_neg (by rw [show (7 : Int32) = nI 7 from rfl, nI_eq (by omega) (by omega)]; exact q), xLet_e, xLet_e, up_c (by omega), g5, hmin _ rfl]
    refine ⟨_, rfl, up_s, ?_, fun k hk => ?_, fun c k hc hc2 => ?_⟩
    · rw [up_c (by omega), up_s, nI_1, Nat.mod_eq_of_lt (by omega)]
    · rw [up_c (by omega), up_c (by omega), uf_s, cpy14 hk]
    · rw [up_c (by omega), up_c (by omega), uf_c hc2]
/-- the reference remembers: the book laid behind the rows -/
theorem rem_lay (hN : 1000 ≤ N) {u : Nat} (hu : u < 8) (h1 : σ 85 2 = nI u) : fX10_remembers_J49 N σ = some (0, xUp (xUf σ 87 (fun j => if 98 * u ≤ j ∧ j < 98 * u + 98 then σ 86 (j - 98 * u) else σ 87 j)) 85 2 (nI (u + 1))) := by
  have key : ∀ (d i m : Nat) (W : Nat → Int32), i + d = 98 → d < m → (∀ j, W j = if 98 * u ≤ j ∧ j < 98 * u + i then σ 86 (j - 98 * u) else σ 87 j) → fX10_remembers_L51 N (fun m4 => xLet (xUp m4 85 2 ((m4 85 2) + 1)) (fun m5 => some (0, m5))) m (nI i) (xUf σ 87 W) = some (0, xUp (xUf σ 87 (fun j => if 98 * u ≤ j ∧ j < 98 * u + 98 then σ 86 (j - 98 * u) else σ 87 j)) 85 2 (nI (u + 1))) := by
    intro d
    induction d with
    | zero =>
      intro i m W hi hm hW
      obtain ⟨m, rfl⟩ : ∃ q, m = q + 1 := ⟨m - 1, by omega⟩
      have e : W = fun j => if 98 * u ≤ j ∧ j < 98 * u + 98 then σ 86 (j - 98 * u) else σ 87 j := by
        funext j; rw [hW, show i = 98 by omega]
      rw [fX10_remembers_L51, show (98 : Int32) = nI 98 from rfl, if_pos (nI_le (by omega) (by omega)), xLet_e, uf_c (by omega), h1, nI_1, e]
    | succ d ih =>
      intro i m W hi hm hW
      obtain ⟨m, rfl⟩ : ∃ q, m = q + 1 := ⟨m - 1, by omega⟩
      rw [fX10_remembers_L51, show (98 : Int32) = nI 98 from rfl, if_neg (nI_ge (by omega) (by omega)), xin_t (by omega) (by decide), gd_t, xLet_e, uf_c (by omega), h1, pk_mul, nI_add, nI_clamp (by omega), nI_clamp (by omega), uf_c (by omega), xin_t (by omega) (by decide), gd_t, nI_1, up_uf]
      refine ih (i + 1) m _ (by omega) (by omega) (fun j => ?_)
      unfold upd
      by_cases e : j = 98 * u + i
      · subst e
        rw [if_pos rfl, if_pos (by omega)]
        congr 1; omega
      · rw [if_neg e, hW]
        by_cases q : 98 * u ≤ j ∧ j < 98 * u + i
        · rw [if_pos q, if_pos (by omega)]
        · rw [if_neg q, if_neg (by omega)]
  unfold fX10_remembers_J49
  have := key 98 0 N (σ 87) rfl (by omega) (fun j => by rw [if_neg (by omega)])
  rw [uf_id] at this
  exact this
theorem rem_shift (hN : 1000 ≤ N) {k : XS → Option XO} : fX10_remembers_L11 N k N 0 σ = k (xUf σ 87 (fun j => if j < 686 then σ 87 (j + 98) else σ 87 j)) := by
  have key : ∀ (d i m : Nat) (W : Nat → Int32), i + d = 686 → d < m → (∀ j, W j = if j < i then σ 87 (j + 98) else σ 87 j) → fX10_remembers_L11 N k m (nI i) (xUf σ 87 W) = k (xUf σ 87 (fun j => if j < 686 then σ 87 (j + 98) else σ 87 j)) := by
    intro d
    induction d with
    | zero =>
      intro i m W hi hm hW
      obtain ⟨m, rfl⟩ : ∃ q, m = q + 1 := ⟨m - 1, by omega⟩
      have e : W = fun j => if j < 686 then σ 87 (j + 98) else σ 87 j := by
        funext j; rw [hW, show i = 686 by omega]
      rw [fX10_remembers_L11, show (686 : Int32) = nI 686 from rfl, if_pos (nI_le (by omega) (by omega)), e]
    | succ d ih =>
      intro i m W hi hm hW
      obtain ⟨m, rfl⟩ : ∃ q, m = q + 1 := ⟨m - 1, by omega⟩
      rw [fX10_remembers_L11, show (686 : Int32) = nI 686 from rfl, if_neg (nI_ge (by omega) (by omega)), show (98 : Int32) = nI 98 from rfl, nI_add, xin_t (by omega) (by decide), gd_t, xLet_e, xin_t (by omega) (by decide), gd_t, nI_clamp (by omega), nI_clamp (by omega), uf_s, nI_1, up_uf, hW, if_neg (by omega)]
      refine ih (i + 1) m _ (by omega) (by omega) (fun j => ?_)
      unfold upd
      by_cases e : j = i
      · subst e
        rw [if_pos rfl, if_pos (by omega)]
      · rw [if_neg e, hW]
        by_cases q : j < i
        · rw [if_pos q, if_pos (by omega)]
        · rw [if_neg q, if_neg (by omega)]
  have := key 686 0 N (σ 87) rfl (by omega) (fun j => by rw [if_neg (by omega)])
  rw [uf_id] at this
  exact this
theorem rem_m (hN : 1000 ≤ N) {u : Nat} (hu : u ≤ 8) (h1 : σ 85 2 = nI u) : ∃ σ2, fX10_remembers N σ = some (0, σ2) ∧ σ2 85 2 = nI (min (u + 1) 8) ∧ (∀ k, k < 98 → σ2 87 (98 * (min (u + 1) 8 - 1) + k) = σ 86 k) ∧ (∀ i k, 1 ≤ i → i < min (u + 1) 8 → k < 98 → σ2 87 (98 * (min (u + 1) 8 - 1 - i) + k) = σ 87 (98 * (u - 1 - (i - 1)) + k)) ∧ ∀ c k, c ≠ 87 → (c ≠ 85 ∨ k ≠ 2) → σ2 c k = σ c k := by
  unfold fX10_remembers
  by_cases q : u = 8
  · subst q
    rw [h1, if_pos (by rfl), rem_shift hN, xLet_e, uf_c (by omega), h1, l1, pk_sub (by omega)]
    have e2 : (xUp (xUf σ 87 (fun j => if j < 686 then σ 87 (j + 98) else σ 87 j)) 85 2 (nI (8 - 1))) 85 2 = nI 7 := up_s
    rw [rem_lay hN (by omega) e2]
    refine ⟨_, rfl, up_s, fun k hk => ?_, fun i k h1 h2 hk => ?_, fun c k hc hc2 => ?_⟩
    · rw [up_c (by omega), uf_s, if_pos (by omega), up_c (by omega), uf_c (by omega)]
      exact congrArg _ (by omega)
    · have e : min (8 + 1) 8 = 8 := rfl
      rw [e] at h2 ⊢
      rw [up_c (by omega), uf_s, if_neg (by omega), up_c (by omega), uf_s, if_pos (by omega)]
      exact congrArg _ (by omega)
    · rw [up_c (by omega), uf_c hc, up_c (by omega), uf_c hc]
  · rw [h1, if_neg (by rw [show (8 : Int32) = nI 8 from rfl, nI_eq (by omega) (by omega)]; exact q), rem_lay hN (by omega) h1]
    have e : min (u + 1) 8 = u + 1 := Nat.min_eq_left (by omega)
    rw [e]
    refine ⟨_, rfl, up_s, fun k hk => ?_, fun i k h1 h2 hk => ?_, fun c k hc hc2 => ?_⟩
    · rw [up_c (by omega), uf_s, if_pos (by omega)]
      exact congrArg _ (by omega)
    · rw [up_c (by omega), uf_s, if_neg (by omega)]
      exact congrArg _ (by omega)
    · rw [up_c (by omega), uf_c hc]
/-- what can be undone, behind both -/
theorem UD.rem {σ' : XS} {u nx : Nat} (hW : TW A) (hS : SN A (σ 30) (σ 86)) (hu : u ≤ 8) (hx : nx < 8) (hr : ∀ i, i < u → SN A (σ (32 + (nx + 7 - i) % 8)) (fun k => σ 87 (98 * (u - 1 - i) + k)))
    (hk : ∀ k, k < 2 → ∃ b, b ≤ 1 ∧ σ 43 k = nI b ∧ σ 89 k = nI b ∧ (b = 1 → SN A (σ (41 + k)) (fun j => σ 88 (98 * k + j))))
    (e1 : σ' 29 5 = nI (min (u + 1) 8)) (e2 : σ' 85 2 = nI (min (u + 1) 8)) (e3 : σ' 29 4 = nI ((nx + 1) % 8)) (e4 : ∀ k, k < 14 → σ' (32 + nx) k = σ 30 k) (e5 : ∀ q k, q < 8 → q ≠ nx → σ' (32 + q) k = σ (32 + q) k)
    (e6 : ∀ k, k < 98 → σ' 87 (98 * (min (u + 1) 8 - 1) + k) = σ 86 k) (e7 : ∀ i k, 1 ≤ i → i < min (u + 1) 8 → k < 98 → σ' 87 (98 * (min (u + 1) 8 - 1 - i) + k) = σ 87 (98 * (u - 1 - (i - 1)) + k)) (e8 : ∀ c k, (c = 41 ∨ c = 42 ∨ c = 43 ∨ c = 88 ∨ c = 89) → σ' c k = σ c k) : UD A σ' := by
  refine ⟨⟨min (u + 1) 8, (nx + 1) % 8, by omega, Nat.mod_lt _ (by decide), e1, e2, e3, fun i hi => ?_⟩, fun k hk2 => ?_⟩
  · by_cases q : i = 0
    · subst q
      have e : ((nx + 1) % 8 + 7 - 0) % 8 = nx := by omega
      rw [e]
      exact hS.eqL hW e4 (fun k hk => e6 k hk)
    · have e : ((nx + 1) % 8 + 7 - i) % 8 = (nx + 7 - (i - 1)) % 8 := by omega
      rw [e]
      exact (hr (i - 1) (by omega)).eqL hW (fun k _ => e5 _ k (Nat.mod_lt _ (by decide)) (by omega)) (fun k hk => e7 i k (by omega) hi hk)
  · obtain ⟨b, b1, b2, b3, b4⟩ := hk k hk2
    refine ⟨b, b1, (e8 _ _ (by omega)).trans b2, (e8 _ _ (by omega)).trans b3, fun hb => (b4 hb).eq (fun j => e8 _ _ (by omega)) (fun j => e8 _ _ (by omega))⟩
theorem over_c {d : Nat} (hd : d ≤ 99) (h : σ 30 0 = nI d) : fX0_areOver N σ = some (b2i (decide (d = 99)), σ) := by
  unfold fX0_areOver
  rw [show xin 0 14 = true from rfl, gd_t, c0, h, show (99 : Int32) = nI 99 from rfl]
  by_cases q : d = 99
  · rw [if_neg (nI_nlt (by omega) (by omega)), decide_eq_true q]; rfl
  · rw [if_pos (nI_lt (by omega) (by omega)), decide_eq_false q]; rfl
end
theorem x014 : xin 0 14 = true := rfl
theorem x114 : xin 1 14 = true := rfl
theorem x498 : xin 4 98 = true := rfl
theorem x598 : xin 5 98 = true := rfl
theorem sim_day {N : Nat} (hN : 1000 ≤ N) : Sim18 N RR := by
  intro σ hR
  obtain ⟨A, h1, h2, h3, ⟨⟨u, nx, u1, u2, u3, u4, u5, u6⟩, u7⟩, h5, h6, h7⟩ := id hR
  obtain ⟨⟨d, d1, d2, d3⟩, p1, p2, p3, p4⟩ := id h3
  have hc : fX9_day N σ = if d = 99 then some (-5, σ) else xB (fX0_remember N σ) (fun _ m5 => xB (fX0_pass N m5) (fun y7 m8 => some (y7, m8))) := by
    unfold fX9_day
    rw [over_c d1 d2, xB_s, b2i0]
    by_cases q : d = 99
    · rw [if_pos (decide_eq_true q), if_pos q]
    · rw [if_neg (by simpa using q), if_neg q]
  by_cases q : d = 99
  · refine sim_mk (f := fun σ => fX9_day N σ) (g := fun σ => fX10_day N σ) (-5) σ σ ?_ ?_ hR
    · show fX9_day N σ = _
      rw [hc, if_pos q]
    · show fX10_day N σ = _
      unfold fX10_day
      rw [x498, gd_t, c4, d3, q, if_pos (by rfl)]
  · obtain ⟨σ1, r1, r2, r3, r4, r5⟩ := rem_c (N := N) u1 u2 u3 u5
    have f1 : σ1 85 2 = nI u := (r5 _ _ (by omega) (by omega)).trans u4
    have fc : fX9_day N σ = some (nI (d + 1), xUp σ1 30 0 (nI (d + 1))) := by
      rw [hc, if_neg q, r1, xB_s]
      unfold fX0_pass
      rw [x014, gd_t, xLet_e, gd_t, gd_t, xB_s, c0, r5 30 0 (by omega) (by omega), d2, nI_1, up_s]
    have f2 : (xUp σ1 30 0 (nI (d + 1))) 85 2 = nI u := by rw [up_c (by omega)]; exact f1
    obtain ⟨σ2, s1, s2, s3, s4, s5⟩ := rem_m hN u1 f2
    have f4 : σ2 86 4 = nI d := by rw [s5 _ _ (by omega) (by omega), up_c (by omega), r5 _ _ (by omega) (by omega)]; exact d3
    have fm : fX10_day N (xUp σ1 30 0 (nI (d + 1))) = some (nI (d + 1), xUp σ2 86 4 (nI (d + 1))) := by
      unfold fX10_day
      rw [x498, gd_t, c4, up_c (by omega), r5 _ _ (by omega) (by omega), d3, if_neg (by rw [show (99 : Int32) = nI 99 from rfl, nI_eq (by omega) (by omega)]; exact q), s1, xB_s, gd_t, xLet_e, gd_t, gd_t, f4, nI_1, up_s]
    have fr : ∀ c k, c ≠ 29 → c ≠ 32 + nx → c ≠ 30 → c ≠ 86 → c ≠ 87 → (c ≠ 85 ∨ k ≠ 2) → (xUp σ2 86 4 (nI (d + 1))) c k = σ c k := fun c k g1 g2 g3 g4 g5 g6 => by rw [up_c (by omega), s5 _ _ g5 g6, up_c (by omega), r5 _ _ g1 g2]
    have b0 : ∀ k, k ≠ 4 → (xUp σ2 86 4 (nI (d + 1))) 86 k = σ 86 k := fun k hk => by rw [up_c (by omega), s5 _ _ (by omega) (by omega), up_c (by omega), r5 _ _ (by omega) (by omega)]
    have b1 : ∀ k, k ≠ 0 → (xUp σ2 86 4 (nI (d + 1))) 30 k = σ 30 k := fun k hk => by rw [up_c (by omega), s5 _ _ (by omega) (by omega), up_c (by omega), r5 _ _ (by omega) (by omega)]
    have b2 : (xUp σ2 86 4 (nI (d + 1))) 30 0 = nI (d + 1) := by rw [up_c (by omega), s5 _ _ (by omega) (by omega), up_s]
    refine sim_mk (f := fun σ => fX9_day N σ) (g := fun σ => fX10_day N σ) _ _ _ fc fm ⟨A, h1, h2.eq (fun c k g1 g2 => fr c k (by omega) (by omega) (by omega) (by omega) (by omega) (by omega)), ⟨⟨d + 1, by omega, b2, up_s⟩, by rw [b1 _ (by omega), b0 _ (by omega)]; exact p1, fun a ha => ?_, fun r hr => ?_, ?_⟩, ?_, h5.eq (fun c k _ => fr c k (by omega) (by omega) (by omega) (by omega) (by omega) (by omega)) (fr _ _ (by omega) (by omega) (by omega) (by omega) (by omega) (by omega)), h6.eq (fun c k _ => fr c k (by omega) (by omega) (by omega) (by omega) (by omega) (by omega)) (fr _ _ (by omega) (by omega) (by omega) (by omega) (by omega) (by omega)) (fr _ _ (by omega) (by omega) (by omega) (by omega) (by omega) (by omega)), h7.eq (fun c k _ => fr c k (by omega) (by omega) (by omega) (by omega) (by omega) (by omega)) (fr _ _ (by omega) (by omega) (by omega) (by omega) (by omega) (by omega)) (fr _ _ (by omega) (by omega) (by omega) (by omega) (by omega) (by omega)) (fr _ _ (by omega) (by omega) (by omega) (by omega) (by omega) (by omega)) (fr _ _ (by omega) (by omega) (by omega) (by omega) (by omega) (by omega))⟩
    · obtain ⟨t, t1, t2, t3⟩ := p2 a ha
      exact ⟨t, t1, (b1 _ (by omega)).trans t2, (b0 _ (by omega)).trans t3⟩
    · obtain ⟨t, t1, t2, t3⟩ := p3 r hr
      exact ⟨t, t1, (b1 _ (by omega)).trans t2, (b0 _ (by omega)).trans t3⟩
    · exact p4.day h1 (fun k hk => b0 k (by omega))
    · have e29 : ∀ k, (xUp σ2 86 4 (nI (d + 1))) 29 k = σ1 29 k := fun k => by rw [up_c (by omega), s5 _ _ (by omega) (by omega), up_c (by omega)]
      have eR : ∀ c k, 31 ≤ c → c ≤ 43 → (xUp σ2 86 4 (nI (d + 1))) c k = σ1 c k := fun c k g1 g2 => by rw [up_c (by omega), s5 _ _ (by omega) (by omega), up_c (by omega)]
      exact UD.rem h1 h3 u1 u2 u6 u7 ((e29 _).trans r2) (by rw [up_c (by omega)]; exact s2) ((e29 _).trans r3) (fun k hk => (eR _ _ (by omega) (by omega)).trans (r4 k hk)) (fun q k g1 g2 => (eR _ _ (by omega) (by omega)).trans (r5 _ _ (by omega) (by omega))) (fun k hk => by rw [up_c (by omega), s3 k hk, up_c (by omega), r5 _ _ (by omega) (by omega)]) (fun i k g1 g2 g3 => by rw [up_c (by omega), s4 i k g1 g2 g3, up_c (by omega), r5 _ _ (by omega) (by omega)]) (fun c k g => fr c k (by omega) (by omega) (by omega) (by omega) (by omega) (by omega))
