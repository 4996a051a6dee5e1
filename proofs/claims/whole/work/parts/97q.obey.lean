/-! THE CLASS OBEYS A CLAUSE -/
section
variable {N i v : Nat} {x : Nat → Nat} {A : Nat → Nat → Nat} {σ : XS}
theorem ob_start (hi : i < 14) (h13 : σ 13 i = nI v) : fX7_obey N σ (nI i) = if nI 3 ≤ nI v then if nI v = nI 3 then xB (fX8_addWord N σ (nI 3) (σ (15 + i) 0) (nI 1) (σ (15 + i) 1)) (fun _ m26 => some (0, m26)) else if nI 7 ≤ nI v then if nI 10 ≤ nI v then if nI v = nI 10 then xB (fX8_reset N σ) (fun _ m18 => some (0, m18)) else if nI v = nI 11 then xB (fX8_setPort N σ (σ (15 + i) 0) (σ (15 + i) 1)) (fun _ m15 => some (0, m15)) else if nI v = nI 12 then xB (fX8_addWare N σ (σ (15 + i) 0) (σ (15 + i) 1)) (fun _ m12 => some (0, m12)) else xB (fX8_setUses N σ (σ (15 + i) 0) (σ (15 + i) 1)) (fun _ m9 => some (0, m9)) else xLet (xUp σ 1 12 (nI v - nI 7)) (fun m20 => some (0, m20)) else xB (fX8_addClerk N σ (nI v - nI 4)) (fun _ m23 => some (0, m23)) else xB (fX8_addWord N σ (nI v) (σ (15 + i) 0) (σ (15 + i) 1) (σ (15 + i) 2)) (fun _ m29 => some (0, m29)) := by
  unfold fX7_obey
  rw [if_neg (nI_pos (by omega)), show (14 : Int32) = nI 14 from rfl, if_pos (nI_lt hi (by omega)), xin_t hi (by omega), nI_clamp (by omega), h13]
  rfl
theorem addW {p1 p2 p3 p4 : Int32} {w : Nat} (h9 : σ 1 9 = nI w) (hw : w < 9) : fX8_addWord N σ p1 p2 p3 p4 = some (0, xUp (xUp (xUp (xUp (xUp σ 2 w p1) 3 w p2) 4 w p3) 5 w p4) 1 9 (nI (w + 1))) := by
  unfold fX8_addWord
  rw [h9, show (9 : Int32) = nI 9 from rfl, if_pos (nI_lt hw (by omega))]
  simp (disch := omega) only [xLet_e, gd_t, xin_t, up_s, up_c, nI_clamp, nI_1, h9]
theorem addA {p1 p2 : Int32} {w : Nat} (h9 : σ 1 10 = nI w) (hw : w < 6) : fX8_addWare N σ p1 p2 = some (0, xUp (xUp (xUp σ 7 w p1) 8 w p2) 1 10 (nI (w + 1))) := by
  unfold fX8_addWare
  rw [h9, l6, if_pos (nI_lt hw (by omega))]
  simp (disch := omega) only [xLet_e, gd_t, xin_t, up_s, up_c, nI_clamp, nI_1, h9]
theorem addC {p1 : Int32} {w : Nat} (h9 : σ 1 11 = nI w) (hw : w < 3) : fX8_addClerk N σ p1 = some (0, xUp (xUp σ 9 w p1) 1 11 (nI (w + 1))) := by
  unfold fX8_addClerk
  rw [h9, l3, if_pos (nI_lt hw (by omega))]
  simp (disch := omega) only [xLet_e, gd_t, xin_t, up_s, up_c, nI_clamp, nI_1, h9]
theorem setP {p2 : Int32} {w : Nat} (hw : w < 4) : fX8_setPort N σ (nI w) p2 = some (0, xUp σ 6 w p2) := by
  unfold fX8_setPort
  rw [if_neg (nI_pos (by omega)), l4, if_neg (nI_ge hw (by omega)), xLet_e, nI_clamp (by omega), xin_t hw (by omega), gd_t]
theorem setU {p2 : Int32} {w : Nat} (hw : w < 6) : fX8_setUses N σ (nI w) p2 = some (0, xUp σ 10 w p2) := by
  unfold fX8_setUses
  rw [if_neg (nI_pos (by omega)), l6, if_neg (nI_ge hw (by omega)), xLet_e, nI_clamp (by omega), xin_t hw (by omega), gd_t]
theorem fillG {L r : Nat} {v : Int32} (hN : 100 ≤ N) (hL : L ≤ 50) (hr : xlen r = L) : ∃ τ, fJ7_fill_53178 N σ r v = some (0, τ) ∧ (∀ k, k < L → τ r k = v) ∧ ∀ a k, a ≠ r → τ a k = σ a k := by
  have key : ∀ (e i q : Nat) (τ : XS), i + e = L → e < q → (∀ a k, a ≠ r → τ a k = σ a k) → (∀ k, k < i → τ r k = v) → ∃ τ', fJ7_fill_53178_L5 N v (nI L) r (fun m4 => some (0, m4)) q (nI i) τ = some (0, τ') ∧ (∀ k, k < L → τ' r k = v) ∧ ∀ a k, a ≠ r → τ' a k = σ a k := by
    intro e
    induction e with
    | zero =>
      intro i q τ hi hq f1 f2
      obtain ⟨q, rfl⟩ : ∃ z, q = z + 1 := ⟨q - 1, by omega⟩
      rw [fJ7_fill_53178_L5, if_pos (nI_le (by omega) (by omega))]
      exact ⟨τ, rfl, fun k hk => f2 k (by omega), f1⟩
    | succ e ih =>
      intro i q τ hi hq f1 f2
      obtain ⟨q, rfl⟩ : ∃ z, q = z + 1 := ⟨q - 1, by omega⟩
      rw [fJ7_fill_53178_L5, if_neg (nI_ge (by omega) (by omega)), xLet_e, hr, xin_t (by omega) (by omega), gd_t, nI_clamp (by omega), nI_1]
      refine ih (i + 1) q _ (by omega) (by omega) (fun a k ha => by rw [up_c (by omega)]; exact f1 a k ha) (fun k hk => ?_)
      by_cases z : k = i
      · subst z; rw [up_s]
      · rw [up_c (by omega)]; exact f2 k (by omega)
  unfold fJ7_fill_53178
  rw [hr]
  exact key L 0 N σ (by omega) (by omega) (fun _ _ _ => rfl) (fun k hk => by omega)
theorem reset_ex (hN : 100 ≤ N) : ∃ τ, fX8_reset N σ = some (0, τ) ∧ τ 1 9 = nI 0 ∧ τ 1 10 = nI 0 ∧ τ 1 11 = nI 0 ∧ τ 1 12 = nI 0 ∧ (∀ p, p < 4 → τ 6 p = nI 0) ∧ (∀ r, r < 6 → τ 10 r = nI 3) ∧ ∀ c b, c ≠ 1 → c ≠ 6 → c ≠ 10 → τ c b = σ c b := by
  obtain ⟨τ1, t1, t2, t3⟩ := fillG (N := N) (σ := xUp (xUp (xUp (xUp σ 1 9 0) 1 10 0) 1 11 0) 1 12 0) (L := 4) (r := 6) (v := 0) hN (by omega) rfl
  obtain ⟨τ2, s1, s2, s3⟩ := fillG (N := N) (σ := τ1) (L := 6) (r := 10) (v := 3) hN (by omega) rfl
  refine ⟨τ2, ?_, ?_, ?_, ?_, ?_, fun p hp => ?_, fun r hr => ?_, fun c b h1 h2 h3 => ?_⟩
  · unfold fX8_reset
    rw [xLet_e, xLet_e, xLet_e, xLet_e, t1, xB_s, s1, xB_s]
  · rw [s3 1 9 (by decide), t3 1 9 (by decide), up_c (by omega), up_c (by omega), up_c (by omega), up_s]; rfl
  · rw [s3 1 10 (by decide), t3 1 10 (by decide), up_c (by omega), up_c (by omega), up_s]; rfl
  · rw [s3 1 11 (by decide), t3 1 11 (by decide), up_c (by omega), up_s]; rfl
  · rw [s3 1 12 (by decide), t3 1 12 (by decide), up_s]; rfl
  · rw [s3 6 p (by decide), t2 p hp]; rfl
  · rw [s2 r hr]; rfl
  · rw [s3 c b h3, t3 c b h2, up_c (by omega), up_c (by omega), up_c (by omega), up_c (by omega)]
theorem ob_w (hC : TC A σ) (hq : clG (v, x) A) (h4 : v < 4) (hi : i < 14) (h13 : σ 13 i = nI v) (hx : ∀ a, a < clN v → σ (15 + i) a = nI (x a)) : ∃ τ, fX7_obey N σ (nI i) = some (0, τ) ∧ TC (stA (v, x) A) τ ∧ ∀ c b, ¬ (1 ≤ c ∧ c ≤ 10) → τ c b = σ c b := by
  obtain ⟨s0, s00, s1, s2, s3, s4, s5⟩ := st_w (v := v) (x := x) (A := A) h4
  have hw : A 0 0 < 9 := by
    have : ctW v (A 0 0) ≤ 9 := hq.2.2.1
    unfold ctW at this
    rw [if_pos h4] at this
    omega
  obtain ⟨g1, g2⟩ := clN_w v h4
  have e : fX7_obey N σ (nI i) = some (0, xUp (xUp (xUp (xUp (xUp σ 2 (A 0 0) (nI v)) 3 (A 0 0) (nI (x 0))) 4 (A 0 0) (nI (if v = 3 then 1 else x 1))) 5 (A 0 0) (nI (if v = 3 then x 1 else x 2))) 1 9 (nI (A 0 0 + 1))) := by
    rw [ob_start hi h13]
    by_cases z : v = 3
    · rw [if_pos (nI_le (by omega) (by omega)), if_pos (by rw [z]), addW hC.1 hw, xB_s, hx 0 (by omega), hx 1 (by omega), if_pos z, if_pos z, z]
    · rw [if_neg (nI_ge (by omega) (by omega)), addW hC.1 hw, xB_s, hx 0 (by omega), hx 1 (by omega), hx 2 (by have := g2 z; omega), if_neg z, if_neg z]
  obtain ⟨a1, a2, a3, a4, a5, a6, a7, a8, a9⟩ := hC
  refine ⟨_, e, ⟨?_, ?_, ?_, ?_, fun w hw' => ?_, fun p hp => ?_, fun a ha => ?_, fun c hc => ?_, fun r hr => ?_⟩, fun c b q => ?_⟩
  · rw [s0, up_s]
  · rw [s00 1 (by decide)]; simp (disch := omega) only [up_c]; exact a2
  · rw [s00 2 (by decide)]; simp (disch := omega) only [up_c]; exact a3
  · rw [s00 3 (by decide)]; simp (disch := omega) only [up_c]; exact a4
  · rw [s1, s2, s3, s4]
    by_cases z : w = A 0 0
    · rw [z, if_pos rfl, if_pos rfl, if_pos rfl, if_pos rfl]
      simp (disch := omega) only [up_c, up_s]
      exact ⟨trivial, trivial, trivial, trivial⟩
    · rw [if_neg z, if_neg z, if_neg z, if_neg z]
      simp (disch := omega) only [up_c]
      exact a5 w (by rw [s0] at hw'; omega)
  · rw [s5 5 p (by decide)]; simp (disch := omega) only [up_c]; exact a6 p hp
  · rw [s5 6 a (by decide), s5 7 a (by decide)]; simp (disch := omega) only [up_c]
    exact a7 a (by rw [s00 1 (by decide)] at ha; exact ha)
  · rw [s5 8 c (by decide)]; simp (disch := omega) only [up_c]
    exact a8 c (by rw [s00 2 (by decide)] at hc; exact hc)
  · rw [s5 9 r (by decide)]; simp (disch := omega) only [up_c]; exact a9 r hr
  · simp (disch := omega) only [up_c]
theorem ob_c (hC : TC A σ) (hq : clG (v, x) A) (h4 : 4 ≤ v) (h7 : v < 7) (hi : i < 14) (h13 : σ 13 i = nI v) : ∃ τ, fX7_obey N σ (nI i) = some (0, τ) ∧ TC (stA (v, x) A) τ ∧ ∀ c b, ¬ (1 ≤ c ∧ c ≤ 10) → τ c b = σ c b := by
  obtain ⟨s0, s00, s8, sf⟩ := st_c (v := v) (x := x) (A := A) h4 h7
  have hw : A 0 2 < 3 := by
    have : ctC v (A 0 2) ≤ 3 := hq.2.2.2.2
    unfold ctC at this
    rw [if_pos ⟨h4, h7⟩] at this
    omega
  have e : fX7_obey N σ (nI i) = some (0, xUp (xUp σ 9 (A 0 2) (nI (v - 4))) 1 11 (nI (A 0 2 + 1))) := by
    rw [ob_start hi h13, if_pos (nI_le (by omega) (by omega)), if_neg (by rw [nI_eq (by omega) (by omega)]; omega), if_neg (nI_ge h7 (by omega)), pk_sub h4, addC hC.2.2.1 hw, xB_s]
  obtain ⟨a1, a2, a3, a4, a5, a6, a7, a8, a9⟩ := hC
  refine ⟨_, e, ⟨?_, ?_, ?_, ?_, fun w hw' => ?_, fun p hp => ?_, fun a ha => ?_, fun c hc => ?_, fun r hr => ?_⟩, fun c b q => ?_⟩
  · rw [s00 0 (by decide)]; simp (disch := omega) only [up_c]; exact a1
  · rw [s00 1 (by decide)]; simp (disch := omega) only [up_c]; exact a2
  · rw [s0, up_s]
  · rw [s00 3 (by decide)]; simp (disch := omega) only [up_c]; exact a4
  · rw [sf 1 w (by decide) (by decide), sf 2 w (by decide) (by decide), sf 3 w (by decide) (by decide), sf 4 w (by decide) (by decide)]; simp (disch := omega) only [up_c]
    exact a5 w (by rw [s00 0 (by decide)] at hw'; exact hw')
  · rw [sf 5 p (by decide) (by decide)]; simp (disch := omega) only [up_c]; exact a6 p hp
  · rw [sf 6 a (by decide) (by decide), sf 7 a (by decide) (by decide)]; simp (disch := omega) only [up_c]
    exact a7 a (by rw [s00 1 (by decide)] at ha; exact ha)
  · rw [s8]
    by_cases z : c = A 0 2
    · rw [z, if_pos rfl]; simp (disch := omega) only [up_c, up_s]
    · rw [if_neg z]; simp (disch := omega) only [up_c]
      exact a8 c (by rw [s0] at hc; omega)
  · rw [sf 9 r (by decide) (by decide)]; simp (disch := omega) only [up_c]; exact a9 r hr
  · simp (disch := omega) only [up_c]
theorem ob_m (hC : TC A σ) (h4 : 7 ≤ v) (h7 : v < 10) (hi : i < 14) (h13 : σ 13 i = nI v) : ∃ τ, fX7_obey N σ (nI i) = some (0, τ) ∧ TC (stA (v, x) A) τ ∧ ∀ c b, ¬ (1 ≤ c ∧ c ≤ 10) → τ c b = σ c b := by
  obtain ⟨s0, s00, sf⟩ := st_m (v := v) (x := x) (A := A) h4 h7
  have e : fX7_obey N σ (nI i) = some (0, xUp σ 1 12 (nI (v - 7))) := by
    rw [ob_start hi h13, if_pos (nI_le (by omega) (by omega)), if_neg (by rw [nI_eq (by omega) (by omega)]; omega), if_pos (nI_le h4 (by omega)), if_neg (nI_ge h7 (by omega)), pk_sub h4, xLet_e]
  obtain ⟨a1, a2, a3, a4, a5, a6, a7, a8, a9⟩ := hC
  refine ⟨_, e, ⟨?_, ?_, ?_, ?_, fun w hw' => ?_, fun p hp => ?_, fun a ha => ?_, fun c hc => ?_, fun r hr => ?_⟩, fun c b q => ?_⟩
  · rw [s00 0 (by decide)]; simp (disch := omega) only [up_c]; exact a1
  · rw [s00 1 (by decide)]; simp (disch := omega) only [up_c]; exact a2
  · rw [s00 2 (by decide)]; simp (disch := omega) only [up_c]; exact a3
  · rw [s0, up_s]
  · rw [sf 1 w (by decide), sf 2 w (by decide), sf 3 w (by decide), sf 4 w (by decide)]; simp (disch := omega) only [up_c]
    exact a5 w (by rw [s00 0 (by decide)] at hw'; exact hw')
  · rw [sf 5 p (by decide)]; simp (disch := omega) only [up_c]; exact a6 p hp
  · rw [sf 6 a (by decide), sf 7 a (by decide)]; simp (disch := omega) only [up_c]
    exact a7 a (by rw [s00 1 (by decide)] at ha; exact ha)
  · rw [sf 8 c (by decide)]; simp (disch := omega) only [up_c]
    exact a8 c (by rw [s00 2 (by decide)] at hc; exact hc)
  · rw [sf 9 r (by decide)]; simp (disch := omega) only [up_c]; exact a9 r hr
  · simp (disch := omega) only [up_c]
theorem ob_r (hN : 100 ≤ N) (hi : i < 14) (h13 : σ 13 i = nI 10) : ∃ τ, fX7_obey N σ (nI i) = some (0, τ) ∧ TC (stA (10, x) A) τ ∧ ∀ c b, ¬ (1 ≤ c ∧ c ≤ 10) → τ c b = σ c b := by
  obtain ⟨s0, s5, s9, sf⟩ := st_r (x := x) (A := A)
  obtain ⟨τ, r1, r2, r3, r4, r5, r6, r7, r8⟩ := reset_ex (N := N) (σ := σ) hN
  have e : fX7_obey N σ (nI i) = some (0, τ) := by
    rw [ob_start hi h13, if_pos (nI_le (by omega) (by omega)), if_neg (by decide), if_pos (nI_le (by omega) (by omega)), if_pos (nI_le (by omega) (by omega)), if_pos rfl, r1, xB_s]
  refine ⟨τ, e, ⟨?_, ?_, ?_, ?_, fun w hw' => ?_, fun p hp => ?_, fun a ha => ?_, fun c hc => ?_, fun r hr => ?_⟩, fun c b q => r8 c b (by omega) (by omega) (by omega)⟩
  · rw [s0]; exact r2
  · rw [s0]; exact r3
  · rw [s0]; exact r4
  · rw [s0]; exact r5
  · rw [s0] at hw'; omega
  · rw [s5]; exact r6 p hp
  · rw [s0] at ha; omega
  · rw [s0] at hc; omega
  · rw [s9]; exact r7 r hr
theorem ob_p (hC : TC A σ) (hq : clG (11, x) A) (hi : i < 14) (h13 : σ 13 i = nI 11) (hx : ∀ a, a < 2 → σ (15 + i) a = nI (x a)) : ∃ τ, fX7_obey N σ (nI i) = some (0, τ) ∧ TC (stA (11, x) A) τ ∧ ∀ c b, ¬ (1 ≤ c ∧ c ≤ 10) → τ c b = σ c b := by
  obtain ⟨s5, sf⟩ := st_p (x := x) (A := A)
  have b0 : 0 ≤ x 0 ∧ x 0 ≤ 3 := hq.2.1 0 (show 0 < clN 11 by decide)
  have e : fX7_obey N σ (nI i) = some (0, xUp σ 6 (x 0) (nI (x 1))) := by
    rw [ob_start hi h13, if_pos (nI_le (by omega) (by omega)), if_neg (by decide), if_pos (nI_le (by omega) (by omega)), if_pos (nI_le (by omega) (by omega)), if_neg (by decide), if_pos rfl, hx 0 (by omega), hx 1 (by omega), setP (by omega), xB_s]
  obtain ⟨a1, a2, a3, a4, a5, a6, a7, a8, a9⟩ := hC
  refine ⟨_, e, ⟨?_, ?_, ?_, ?_, fun w hw' => ?_, fun p hp => ?_, fun a ha => ?_, fun c hc => ?_, fun r hr => ?_⟩, fun c b q => ?_⟩
  · rw [sf 0 0 (by decide)]; simp (disch := omega) only [up_c]; exact a1
  · rw [sf 0 1 (by decide)]; simp (disch := omega) only [up_c]; exact a2
  · rw [sf 0 2 (by decide)]; simp (disch := omega) only [up_c]; exact a3
  · rw [sf 0 3 (by decide)]; simp (disch := omega) only [up_c]; exact a4
  · rw [sf 1 w (by decide), sf 2 w (by decide), sf 3 w (by decide), sf 4 w (by decide)]; simp (disch := omega) only [up_c]
    exact a5 w (by rw [sf 0 0 (by decide)] at hw'; exact hw')
  · rw [s5]
    by_cases z : p = x 0
    · rw [z, if_pos rfl, up_s]
    · rw [if_neg z]; simp (disch := omega) only [up_c]
      exact a6 p hp
  · rw [sf 6 a (by decide), sf 7 a (by decide)]; simp (disch := omega) only [up_c]
    exact a7 a (by rw [sf 0 1 (by decide)] at ha; exact ha)
  · rw [sf 8 c (by decide)]; simp (disch := omega) only [up_c]
    exact a8 c (by rw [sf 0 2 (by decide)] at hc; exact hc)
  · rw [sf 9 r (by decide)]; simp (disch := omega) only [up_c]; exact a9 r hr
  · simp (disch := omega) only [up_c]
theorem ob_a (hC : TC A σ) (hq : clG (12, x) A) (hi : i < 14) (h13 : σ 13 i = nI 12) (hx : ∀ a, a < 2 → σ (15 + i) a = nI (x a)) : ∃ τ, fX7_obey N σ (nI i) = some (0, τ) ∧ TC (stA (12, x) A) τ ∧ ∀ c b, ¬ (1 ≤ c ∧ c ≤ 10) → τ c b = σ c b := by
  obtain ⟨s0, s00, s6, s7, sf⟩ := st_a (x := x) (A := A)
  have hw : A 0 1 + 1 ≤ 6 := hq.2.2.2.1
  have e : fX7_obey N σ (nI i) = some (0, xUp (xUp (xUp σ 7 (A 0 1) (nI (x 0))) 8 (A 0 1) (nI (x 1))) 1 10 (nI (A 0 1 + 1))) := by
    rw [ob_start hi h13, if_pos (nI_le (by omega) (by omega)), if_neg (by decide), if_pos (nI_le (by omega) (by omega)), if_pos (nI_le (by omega) (by omega)), if_neg (by decide), if_neg (by decide), if_pos rfl, hx 0 (by omega), hx 1 (by omega), addA hC.2.1 (by omega), xB_s]
  obtain ⟨a1, a2, a3, a4, a5, a6, a7, a8, a9⟩ := hC
  refine ⟨_, e, ⟨?_, ?_, ?_, ?_, fun w hw' => ?_, fun p hp => ?_, fun a ha => ?_, fun c hc => ?_, fun r hr => ?_⟩, fun c b q => ?_⟩
  · rw [s00 0 (by decide)]; simp (disch := omega) only [up_c]; exact a1
  · rw [s0, up_s]
  · rw [s00 2 (by decide)]; simp (disch := omega) only [up_c]; exact a3
  · rw [s00 3 (by decide)]; simp (disch := omega) only [up_c]; exact a4
  · rw [sf 1 w (by decide) (by decide) (by decide), sf 2 w (by decide) (by decide) (by decide), sf 3 w (by decide) (by decide) (by decide), sf 4 w (by decide) (by decide) (by decide)]; simp (disch := omega) only [up_c]
    exact a5 w (by rw [s00 0 (by decide)] at hw'; exact hw')
  · rw [sf 5 p (by decide) (by decide) (by decide)]; simp (disch := omega) only [up_c]; exact a6 p hp
  · rw [s6, s7]
    by_cases z : a = A 0 1
    · rw [z, if_pos rfl, if_pos rfl]; simp (disch := omega) only [up_c, up_s]
      exact ⟨trivial, trivial⟩
    · rw [if_neg z, if_neg z]; simp (disch := omega) only [up_c]
      exact a7 a (by rw [s0] at ha; omega)
  · rw [sf 8 c (by decide) (by decide) (by decide)]; simp (disch := omega) only [up_c]
    exact a8 c (by rw [s00 2 (by decide)] at hc; exact hc)
  · rw [sf 9 r (by decide) (by decide) (by decide)]; simp (disch := omega) only [up_c]; exact a9 r hr
  · simp (disch := omega) only [up_c]
theorem ob_u (hC : TC A σ) (hq : clG (13, x) A) (hi : i < 14) (h13 : σ 13 i = nI 13) (hx : ∀ a, a < 2 → σ (15 + i) a = nI (x a)) : ∃ τ, fX7_obey N σ (nI i) = some (0, τ) ∧ TC (stA (13, x) A) τ ∧ ∀ c b, ¬ (1 ≤ c ∧ c ≤ 10) → τ c b = σ c b := by
  obtain ⟨s9, sf⟩ := st_u (x := x) (A := A)
  have b0 : 0 ≤ x 0 ∧ x 0 ≤ 5 := hq.2.1 0 (show 0 < clN 13 by decide)
  have e : fX7_obey N σ (nI i) = some (0, xUp σ 10 (x 0) (nI (x 1))) := by
    rw [ob_start hi h13, if_pos (nI_le (by omega) (by omega)), if_neg (by decide), if_pos (nI_le (by omega) (by omega)), if_pos (nI_le (by omega) (by omega)), if_neg (by decide), if_neg (by decide), if_neg (by decide), hx 0 (by omega), hx 1 (by omega), setU (by omega), xB_s]
  obtain ⟨a1, a2, a3, a4, a5, a6, a7, a8, a9⟩ := hC
  refine ⟨_, e, ⟨?_, ?_, ?_, ?_, fun w hw' => ?_, fun p hp => ?_, fun a ha => ?_, fun c hc => ?_, fun r hr => ?_⟩, fun c b q => ?_⟩
  · rw [sf 0 0 (by decide)]; simp (disch := omega) only [up_c]; exact a1
  · rw [sf 0 1 (by decide)]; simp (disch := omega) only [up_c]; exact a2
  · rw [sf 0 2 (by decide)]; simp (disch := omega) only [up_c]; exact a3
  · rw [sf 0 3 (by decide)]; simp (disch := omega) only [up_c]; exact a4
  · rw [sf 1 w (by decide), sf 2 w (by decide), sf 3 w (by decide), sf 4 w (by decide)]; simp (disch := omega) only [up_c]
    exact a5 w (by rw [sf 0 0 (by decide)] at hw'; exact hw')
  · rw [sf 5 p (by decide)]; simp (disch := omega) only [up_c]; exact a6 p hp
  · rw [sf 6 a (by decide), sf 7 a (by decide)]; simp (disch := omega) only [up_c]
    exact a7 a (by rw [sf 0 1 (by decide)] at ha; exact ha)
  · rw [sf 8 c (by decide)]; simp (disch := omega) only [up_c]
    exact a8 c (by rw [sf 0 2 (by decide)] at hc; exact hc)
  · rw [s9]
    by_cases z : r = x 0
    · rw [z, if_pos rfl, up_s]
    · rw [if_neg z]; simp (disch := omega) only [up_c]
      exact a9 r hr
  · simp (disch := omega) only [up_c]
/-- the class obeys a clause -/
theorem obey_c (hN : 100 ≤ N) (hC : TC A σ) (hq : clG (v, x) A) (hi : i < 14) (h13 : σ 13 i = nI v) (hx : ∀ a, a < clN v → σ (15 + i) a = nI (x a)) : ∃ τ, fX7_obey N σ (nI i) = some (0, τ) ∧ TC (stA (v, x) A) τ ∧ ∀ c b, ¬ (1 ≤ c ∧ c ≤ 10) → τ c b = σ c b := by
  have hv : v < 14 := hq.1
  by_cases h1 : v < 4
  · exact ob_w hC hq h1 hi h13 hx
  by_cases h2 : v < 7
  · exact ob_c hC hq (by omega) h2 hi h13
  by_cases h3 : v < 10
  · exact ob_m hC (by omega) h3 hi h13
  rcases (show v = 10 ∨ v = 11 ∨ v = 12 ∨ v = 13 by omega) with rfl | rfl | rfl | rfl
  · exact ob_r hN hi h13
  · exact ob_p hC hq hi h13 hx
  · exact ob_a hC hq hi h13 hx
  · exact ob_u hC hq hi h13 hx
end
/-- what texts told behind all clauses -/
def foA : List (Nat × (Nat → Nat)) → (Nat → Nat → Nat) → (Nat → Nat → Nat)
  | [], A => A
  | q :: L, A => foA L (stA q A)
theorem fo_tw : ∀ (L : List (Nat × (Nat → Nat))) (i : Nat) (A : Nat → Nat → Nat) (σ ρ : XS), Tb i A L σ ρ → TW A → TW (foA L A) := by
  intro L
  induction L with
  | nil => intro i A σ ρ _ h; exact h
  | cons q L ih =>
    intro i A σ ρ h hW
    exact ih (i + 1) (stA q A) σ ρ h.2.2.2 (st_tw (v := q.1) (x := q.2) hW h.1)
/-- tables of the same class do the same -/
theorem fo_eq : ∀ (L M : List (Nat × (Nat → Nat))) (i : Nat) (A : Nat → Nat → Nat) (σ ρ ρ' : XS), L.length = M.length → Tb i A L σ ρ → Tb i A M σ ρ' → foA L A = foA M A := by
  intro L
  induction L with
  | nil =>
    intro M i A σ ρ ρ' e _ _
    cases M with
    | nil => rfl
    | cons q M => cases e
  | cons q L ih =>
    intro M i A σ ρ ρ' e h g
    cases M with
    | nil => cases e
    | cons r M =>
      obtain ⟨⟨h1, h2, -⟩, ⟨h3, h4⟩, -, h5⟩ := h
      obtain ⟨⟨g1, g2, -⟩, ⟨g3, g4⟩, -, g5⟩ := g
      obtain ⟨v, x⟩ := q
      obtain ⟨w, y⟩ := r
      have h1 : v < 14 := h1
      have g1 : w < 14 := g1
      have ev : v = w := (nI_eq (by omega) (by omega)).mp (h3.symm.trans g3)
      subst ev
      have exy : ∀ a, a < clN v → x a = y a := by
        intro a ha
        have z0 : x 0 ≤ 99 := Nat.le_trans (h2 0 (by show 0 < clN v; omega)).2 (Nat.le_trans clB0 (by omega))
        have w0 : y 0 ≤ 99 := Nat.le_trans (g2 0 (by show 0 < clN v; omega)).2 (Nat.le_trans clB0 (by omega))
        have z1 : x a ≤ 99 := Nat.le_trans (h2 a ha).2 (clB_le z0)
        have w1 : y a ≤ 99 := Nat.le_trans (g2 a ha).2 (clB_le w0)
        exact (nI_eq (by omega) (by omega)).mp ((h4 a ha).symm.trans (g4 a ha))
      have es : stA (v, x) A = stA (v, y) A := stA_eq h1 exy
      show foA L (stA (v, x) A) = foA M (stA (v, y) A)
      rw [es]
      rw [es] at h5
      exact ih M (i + 1) _ σ ρ ρ' (by have : L.length + 1 = M.length + 1 := e; omega) h5 g5
section
variable {N : Nat}
/-- the class obeys all clauses -/
theorem obeys_c (hN : 100 ≤ N) {kk : XS → Option XO} {c : Nat} : ∀ (L : List (Nat × (Nat → Nat))) (i m : Nat) (A : Nat → Nat → Nat) (σ σ0 ρ : XS), i + L.length = c → c ≤ 14 → L.length < m → σ 11 4 = nI c → (∀ a b, ¬ (1 ≤ a ∧ a ≤ 10) → σ a b = σ0 a b) → Tb i A L σ0 ρ → TC A σ → ∃ τ, fX9_customs_L20 N kk m (nI i) σ = kk τ ∧ TC (foA L A) τ ∧ ∀ a b, ¬ (1 ≤ a ∧ a ≤ 10) → τ a b = σ a b := by
  intro L
  induction L with
  | nil =>
    intro i m A σ σ0 ρ hc h14 hm h4 hf hT hC
    obtain ⟨m, rfl⟩ : ∃ z, m = z + 1 := ⟨m - 1, by omega⟩
    have e : i = c := by simpa using hc
    refine ⟨σ, ?_, hC, fun _ _ _ => rfl⟩
    rw [fX9_customs_L20, h4, if_pos (nI_le (by omega) (by omega))]
  | cons q L ih =>
    intro i m A σ σ0 ρ hc h14 hm h4 hf hT hC
    obtain ⟨m, rfl⟩ : ∃ z, m = z + 1 := ⟨m - 1, by omega⟩
    rw [List.length_cons] at hc hm
    obtain ⟨h1, ⟨h2, h3⟩, -, h5⟩ := hT
    obtain ⟨v, x⟩ := q
    obtain ⟨τ, t1, t2, t3⟩ := obey_c (N := N) (x := x) hN hC h1 (i := i) (by omega) ((hf 13 i (by omega)).trans h2) (fun a ha => (hf (15 + i) a (by omega)).trans (h3 a ha))
    obtain ⟨τ', r1, r2, r3⟩ := ih (i + 1) m (stA (v, x) A) τ σ0 ρ (by omega) h14 (by omega) ((t3 11 4 (by omega)).trans h4) (fun a b z => (t3 a b z).trans (hf a b z)) h5 t2
    refine ⟨τ', ?_, r2, fun a b z => (r3 a b z).trans (t3 a b z)⟩
    rw [fX9_customs_L20, h4, if_neg (nI_ge (by omega) (by omega)), t1, xB_s, nI_1]
    exact r1
end
