/-! ODDS -/
section
variable {N : Nat} {A : Nat → Nat → Nat} {σ τ : XS}
theorem half {a b : Nat} (hb : 0 < b) (hr : 0 < a % b) {e : Nat} (h : b < 2 ^ (e + 1)) : b % (a % b) < 2 ^ e := by
  have h1 := Nat.mod_lt a hb
  have h2 := Nat.mod_lt b hr
  have h3 : 2 ^ (e + 1) = 2 ^ e + 2 ^ e := by rw [Nat.pow_succ]; omega
  by_cases q : a % b ≤ 2 ^ e
  · omega
  · have : b % (a % b) = b - a % b := by
      rw [Nat.mod_eq_sub_mod (by omega), Nat.mod_eq_of_lt (by omega)]
    omega
theorem gcd_st {a b : Nat} : Nat.gcd a b = Nat.gcd b (a % b) := by
  rw [Nat.gcd_comm, Nat.gcd_rec, Nat.gcd_comm]
theorem l100 : (100 : Int32) = nI 100 := rfl
theorem common_c (hN : 1000 ≤ N) {a b : Nat} (ha : a < 10000) (hb : b < 8192) : fX9_commonDivisor N σ (nI a) (nI b) = some (nI (Nat.gcd a b), σ) := by
  have key : ∀ (e a b v q : Nat), a < 10000 → b < 10000 → b < 2 ^ e → v + 2 * e < 100 → 2 * e + 1 < q → fX9_commonDivisor_L2 N (fun x2 m3 => some (x2, m3)) q (nI a) (nI b) (nI v) σ = some (nI (Nat.gcd a b), σ) := by
    intro e
    induction e with
    | zero =>
      intro a b v q ha hb h hv hq
      obtain ⟨q, rfl⟩ : ∃ r, q = r + 1 := ⟨q - 1, by omega⟩
      have b0 : b = 0 := by rw [Nat.pow_zero] at h; omega
      subst b0
      rw [fX9_commonDivisor_L2, l100, if_neg (nI_ge (by omega) (by omega)), if_pos (by rfl), Nat.gcd_zero_right]
    | succ e ih =>
      intro a b v q ha hb h hv hq
      obtain ⟨q, rfl⟩ : ∃ r, q = r + 1 := ⟨q - 1, by omega⟩
      rw [fX9_commonDivisor_L2, l100, if_neg (nI_ge (by omega) (by omega)), isz (by omega)]
      by_cases z : b = 0
      · subst z
        rw [if_pos rfl, Nat.gcd_zero_right]
      · have bn : ¬ nI b = 0 := nI_ne0 (by omega) (by omega)
        have r1 := Nat.mod_lt a (show 0 < b by omega)
        rw [if_neg z, decide_eq_false bn, Bool.not_false, gd_t, pk_rem (by omega) (by omega) (by omega), xLetI_e, nI_1, gcd_st]
        obtain ⟨q, rfl⟩ : ∃ r, q = r + 1 := ⟨q - 1, by omega⟩
        rw [fX9_commonDivisor_L2, l100, if_neg (nI_ge (by omega) (by omega)), isz (by omega)]
        by_cases y : a % b = 0
        · rw [if_pos y, y, Nat.gcd_zero_right]
        · have rn : ¬ nI (a % b) = 0 := nI_ne0 (by omega) (by omega)
          have r2 := Nat.mod_lt b (show 0 < a % b by omega)
          rw [if_neg y, decide_eq_false rn, Bool.not_false, gd_t, pk_rem (by omega) (by omega) (by omega), xLetI_e, nI_1, gcd_st]
          exact ih _ _ _ _ (by omega) (by omega) (half (by omega) (by omega) h) (by omega) (by omega)
  exact key 13 a b 0 N ha (by omega) hb (by omega) (by omega)
theorem divisor_m (hN : 10000 ≤ N) {a b : Nat} (ha : a < 9000) (hb : b < 9000) : fX10_divisor N σ (nI a) (nI b) = some (nI (Nat.gcd a b), σ) := by
  have key : ∀ (q a b : Nat), a < 9000 → b < 9000 → b < q → fX10_divisor_L4 N (fun x2 m3 => some (x2, m3)) q (nI a) (nI b) σ = some (nI (Nat.gcd a b), σ) := by
    intro q
    induction q with
    | zero => intro a b _ _ h; omega
    | succ q ih =>
      intro a b ha hb h
      rw [fX10_divisor_L4, isz (by omega)]
      by_cases z : b = 0
      · subst z
        rw [if_pos rfl, Nat.gcd_zero_right]
      · have bn : ¬ nI b = 0 := nI_ne0 (by omega) (by omega)
        have r1 := Nat.mod_lt a (show 0 < b by omega)
        rw [if_neg z, decide_eq_false bn, Bool.not_false, gd_t, pk_rem (by omega) (by omega) (by omega), xLetI_e, gcd_st]
        exact ih _ _ (by omega) (by omega) (by omega)
  exact key N a b ha hb (by omega)
theorem odds_m (hN : 10000 ≤ N) (hM : TM A (σ 86)) (hW : TW A) {a cl n : Nat} (hw0 : 0 < A 0 0) (ha : a < A 0 1) (hc : cl < A 0 2) (n4 : n ≤ 4) {v4 : Int32} {k : Int32 → XS → Option XO} :
    ∃ τ, fX10_odds_L63 N (nI a) (nI cl) (nI n) v4 (nI (A 0 0 ^ n)) k N 0 0 σ = k (nI (Fc (fun c => passS A (dg (A 0 0) n c) n a (A 8 cl)) (A 0 0 ^ n))) τ ∧ ∀ a k, a ≠ 94 → τ a k = σ a k := by
  have hpow := pow4 hW n4
  generalize hG : (fun c => passS A (dg (A 0 0) n c) n a (A 8 cl)) = G
  have key : ∀ (d c q : Nat) (τ : XS), c + d = A 0 0 ^ n → d < q → (∀ a k, a ≠ 94 → τ a k = σ a k) → ∃ ρ, fX10_odds_L63 N (nI a) (nI cl) (nI n) v4 (nI (A 0 0 ^ n)) k q (nI (Fc G c)) (nI c) τ = k (nI (Fc G (A 0 0 ^ n))) ρ ∧ ∀ a k, a ≠ 94 → ρ a k = σ a k := by
    intro d
    induction d with
    | zero =>
      intro c q τ hd hq f1
      obtain ⟨q, rfl⟩ : ∃ r, q = r + 1 := ⟨q - 1, by omega⟩
      rw [fX10_odds_L63, if_pos (nI_le (by omega) (by omega)), show c = A 0 0 ^ n by omega]
      exact ⟨τ, rfl, f1⟩
    | succ d ih =>
      intro c q τ hd hq f1
      obtain ⟨q, rfl⟩ : ∃ r, q = r + 1 := ⟨q - 1, by omega⟩
      have hW0 : 0 < A 0 0 := hw0
      obtain ⟨ν, v1, v2, v3⟩ := lays_m (N := N) (σ := τ) (W := A 0 0) (n := n) (c := c) (by omega) ((f1 _ _ (by omega)).trans hM.1) hW0 (by have := hW.1; omega) (by omega) (by omega)
      have fr : ∀ a k, a ≠ 94 → ν a k = σ a k := fun a k h => (v3 a k h).trans (f1 a k h)
      have hL : MLn A ν 94 n (dg (A 0 0) n c) := ⟨hM.eqL hW (fun k _ => fr _ _ (by omega)), hW, by show n ≤ 6; omega, by decide, fun i hi => ⟨dg_lt hW0, v2 i hi⟩⟩
      have hGc : passS A (dg (A 0 0) n c) n a (A 8 cl) = G c := by rw [← hG]
      rw [fX10_odds_L63, if_neg (nI_ge (by omega) (by omega)), v1, xB_s, passed_m (by omega) hL ha hc, hGc, xB_s, b2i0, nI_1]
      have un : Fc G (c + 1) = if G c = true then Fc G c + 1 else Fc G c := rfl
      have := ih (c + 1) q ν (by omega) (by omega) fr
      rw [un] at this
      by_cases g : G c = true
      · rw [if_pos g] at this ⊢
        rw [nI_1]
        exact this
      · rw [if_neg g] at this ⊢
        rw [Int32.add_zero, nI_1]
        exact this
  exact key (A 0 0 ^ n) 0 N σ (by omega) (by omega) (fun _ _ _ => rfl)
end
theorem sim_odds {N : Nat} (hN : 10000 ≤ N) : Sim29 N RR := by
  intro σ a b p q hR
  obtain ⟨A, h⟩ := id hR
  obtain ⟨a1, a2, a3⟩ := h.a
  obtain ⟨c1', c2', c3'⟩ := h.c
  obtain ⟨w1, w2, w3⟩ := h.w
  have hin : ∀ τ : XS, fX10_in N τ p.toInt64 1 4 = some (if (1 : Int32) ≤ p ∧ p ≤ 4 then 1 else 0, τ) := fun τ => in_spec2 1 4 rfl rfl
  have bad : ∀ r : Int32, fX9_odds N σ a b p q = some (r, σ) → fX10_odds N σ a b p q = some (r, σ) → ∃ (r : Int32) (σ1 σ2 : XS), fX9_odds N σ a b p q = some (r, σ1) ∧ fX10_odds N σ1 a b p q = some (r, σ2) ∧ RR σ2 := fun r g1 g2 =>
    sim_mk (f := fun σ => fX9_odds N σ a b p q) (g := fun σ => fX10_odds N σ a b p q) r σ σ g1 g2 hR
  by_cases hx : (∃ j, j < A 0 1 ∧ a = nI j) ∧ ∃ j, j < A 0 2 ∧ b = nI j
  · by_cases hr : (1 : Int32) ≤ p ∧ p ≤ 4
    · have g1 : ¬ p < 1 := Int32.not_lt.mpr hr.1
      have g2 : ¬ 4 < p := Int32.not_lt.mpr hr.2
      rcases or_assoc.mpr (icase q 2 (by decide)) with hp | ⟨j, hj, rfl⟩
      · refine bad (-3) ?_ ?_
        · unfold fX9_odds
          rw [areKnown_c a1 c1' (by omega) (by omega), xB_s, ite1, if_pos hx, if_neg g1, if_neg g2]
          by_cases h0 : q < 0
          · rw [if_pos h0]
          · have h2 : nI 2 ≤ q := by rcases hp with z | z; exact absurd z h0; exact z
            rw [if_neg h0, if_neg (fun z => absurd (Int32.le_trans h2 z) (by decide))]
        · unfold fX10_odds
          rw [areBoth_m a2 c2' (by omega) (by omega), xB_s, ite1, if_pos hx, hin, xB_s, ite1, if_pos hr, show (1 : Int64) = (nI 2 - 1).toInt64 from rfl, ref_test (by decide), xB_s, ite1, if_neg (out_ex hp (by decide))]
      · obtain ⟨⟨i, hi, rfl⟩, cl, hc, rfl⟩ := id hx
        obtain ⟨n, hn, rfl⟩ := nI_of2 (M := 4) (n := 4) (by decide) (fun z => absurd (Int32.lt_of_le_of_lt hr.1 z) (by decide)) hr.2
        have n1 : 1 ≤ n := (nI_leI (by omega) (by omega)).mp hr.1
        have hc9 : fX9_odds N σ (nI i) (nI cl) (nI n) (nI j) = if A 0 0 = 0 then some (-4, σ) else xB (fX1_ask N σ (nI i) (nI cl)) (fun _ m5 => xB (fX2_linesOf N m5 (nI n)) (fun y7 m8 => xB (fX8_linesOf N m8 (nI n)) (fun y10 m11 => xB (fX9_commonDivisor N m11 y7 y10) (fun y13 m14 => if y13 = 0 then some ((-1), m14) else if nI j = 0 then gd (!decide (y13 = 0)) (some ((y7 / y13), m14)) else gd (!decide (y13 = 0)) (some ((y10 / y13), m14)))))) := by
          unfold fX9_odds
          rw [areKnown_c a1 c1' (by omega) (by omega), xB_s, ite1, if_pos hx, if_neg g1, if_neg g2, if_neg (nI_pos (by omega)), if_pos (show nI j ≤ 1 from nI_le (b := 1) (by omega) (by decide)), w1, isz (by omega)]
        have hm9 : ∀ μ : XS, (∀ k, μ 86 k = σ 86 k) → fX10_odds N μ (nI i) (nI cl) (nI n) (nI j) = if A 0 0 = 0 then some (-4, μ) else fX10_odds_L63 N (nI i) (nI cl) (nI n) (nI j) (nI (A 0 0 ^ n)) (fun x19 m20 => xB (fX10_divisor N m20 x19 (nI (A 0 0 ^ n))) (fun y21 m22 => if nI j = 0 then gd (!decide (y21 = 0)) (some ((x19 / y21), m22)) else gd (!decide (y21 = 0)) (some ((nI (A 0 0 ^ n) / y21), m22)))) N 0 0 μ := by
          intro μ e
          unfold fX10_odds
          rw [areBoth_m ((e _).trans a2) ((e _).trans c2') (by omega) (by omega), xB_s, ite1, if_pos hx, hin, xB_s, ite1, if_pos hr, show (1 : Int64) = (nI 2 - 1).toInt64 from rfl, ref_test (by decide), xB_s, ite1, if_pos ⟨j, hj, rfl⟩, xin098, gd_t, c0, e, w2, isz (by omega), ways_m (by omega) ((e _).trans w2) (by omega), xB_s]
        by_cases z0 : A 0 0 = 0
        · exact bad (-4) (by rw [hc9, if_pos z0]) (by rw [hm9 σ (fun _ => rfl), if_pos z0])
        · have hpow := pow4 h.tw hn
          have hpos : 0 < A 0 0 ^ n := Nat.pow_pos (by omega)
          obtain ⟨τ, ry, sl, st, t1, t2, t3, t4, t5⟩ := ask_c (N := N) h.tc h.tw hi hc
          have w := h.tw.2.2.2.2.2.2.1 i hi
          obtain ⟨μ, m1, m2⟩ := lines_c (N := N) (σ := τ) (n := n) (by omega) (h.tc.eq (fun a k g1 g2 => t5 a k (by omega))) h.tw t3 (show A 6 i ≤ 12 by omega) t4 n1 (by omega)
          have fr : ∀ a k, ¬ sr a → a ≠ 46 → μ a k = σ a k := fun a k g1 g2 => (m2 a k g1).trans (t5 a k g2)
          have e86 : ∀ k, μ 86 k = σ 86 k := fun k => fr _ _ (by unfold sr; omega) (by omega)
          have eG : (fun c => lok A ry sl st c n 0 (A 6 i)) = fun c => passS A (dg (A 0 0) n c) n i (A 8 cl) := by
            funext c
            rw [Bool.eq_iff_iff, ← pass_iff h.tw (by omega) t2 ⟨cl, hc, decide_eq_true rfl⟩ n1]
            exact ⟨fun g => g cl hc (decide_eq_true rfl), fun g j _ g2 => by rw [of_decide_eq_true g2]; exact g⟩
          rw [eG] at m1
          have fle := Fc_le (G := fun c => passS A (dg (A 0 0) n c) n i (A 8 cl)) (A 0 0 ^ n)
          obtain ⟨ρ, r1, r2⟩ := odds_m (N := N) (σ := μ) (n := n) (v4 := nI j) (k := fun x19 m20 => xB (fX10_divisor N m20 x19 (nI (A 0 0 ^ n))) (fun y21 m22 => if nI j = 0 then gd (!decide (y21 = 0)) (some ((x19 / y21), m22)) else gd (!decide (y21 = 0)) (some ((nI (A 0 0 ^ n) / y21), m22)))) hN (h.tm.eqL h.tw (fun k _ => e86 k)) h.tw (show 0 < A 0 0 by omega) hi hc hn
          generalize hF : Fc (fun c => passS A (dg (A 0 0) n c) n i (A 8 cl)) (A 0 0 ^ n) = F at m1 r1 fle
          have gp : 0 < Nat.gcd F (A 0 0 ^ n) := Nat.gcd_pos_of_pos_right _ hpos
          have gl : Nat.gcd F (A 0 0 ^ n) ≤ A 0 0 ^ n := Nat.gcd_le_right _ hpos
          have gn : ¬ nI (Nat.gcd F (A 0 0 ^ n)) = 0 := nI_ne0 gp (by omega)
          have hc10 : fX9_odds N σ (nI i) (nI cl) (nI n) (nI j) = some (if nI j = 0 then nI F / nI (Nat.gcd F (A 0 0 ^ n)) else nI (A 0 0 ^ n) / nI (Nat.gcd F (A 0 0 ^ n)), μ) := by
            rw [hc9, if_neg z0, t1, xB_s, m1, xB_s, linesOf_c (by omega) ((fr 1 9 (by unfold sr; omega) (by omega)).trans w1) (by omega), xB_s, common_c (by omega) (by omega) (by omega), xB_s, if_neg gn, decide_eq_false gn, Bool.not_false, gd_t, gd_t]
            by_cases y : nI j = 0
            · rw [if_pos y, if_pos y]
            · rw [if_neg y, if_neg y]
          have hm10 : fX10_odds N μ (nI i) (nI cl) (nI n) (nI j) = some (if nI j = 0 then nI F / nI (Nat.gcd F (A 0 0 ^ n)) else nI (A 0 0 ^ n) / nI (Nat.gcd F (A 0 0 ^ n)), ρ) := by
            rw [hm9 μ e86, if_neg z0, r1, divisor_m hN (by omega) (by omega), xB_s, decide_eq_false gn, Bool.not_false, gd_t, gd_t]
            by_cases y : nI j = 0
            · rw [if_pos y, if_pos y]
            · rw [if_neg y, if_neg y]
          refine sim_kp (f := fun σ => fX9_odds N σ (nI i) (nI cl) (nI n) (nI j)) (g := fun σ => fX10_odds N σ (nI i) (nI cl) (nI n) (nI j)) hR hc10 hm10 (kp_sr fr) (fun a k g => r2 a k (fun e => ?_))
          subst e
          exact absurd (g.symm.trans (show lv _ _ = false from rfl)) (by decide)
    · refine bad (-3) ?_ ?_
      · unfold fX9_odds
        rw [areKnown_c a1 c1' (by omega) (by omega), xB_s, ite1, if_pos hx]
        by_cases g1 : p < 1
        · rw [if_pos g1]
        · rw [if_neg g1, if_pos (Int32.not_le.mp (fun g => hr ⟨Int32.not_lt.mp g1, g⟩))]
      · unfold fX10_odds
        rw [areBoth_m a2 c2' (by omega) (by omega), xB_s, ite1, if_pos hx, hin, xB_s, ite1, if_neg hr]
  · refine bad (-2) ?_ ?_
    · unfold fX9_odds
      rw [areKnown_c a1 c1' (by omega) (by omega), xB_s, ite1, if_neg hx]
    · unfold fX10_odds
      rw [areBoth_m a2 c2' (by omega) (by omega), xB_s, ite1, if_neg hx]
