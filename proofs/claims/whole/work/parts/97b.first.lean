/-! THE FIRST LINE of least change -/
theorem fst_spec {G : Nat → Bool} : ∀ B, 0 < Fc G B → fst G B < B ∧ G (fst G B) = true ∧ ∀ c, c < fst G B → G c = false := by
  intro B
  induction B with
  | zero => intro h; exact absurd h (by show ¬ 0 < 0; omega)
  | succ B ih =>
    intro h
    show (if G B = true ∧ Fc G B = 0 then B else fst G B) < B + 1 ∧ G (if G B = true ∧ Fc G B = 0 then B else fst G B) = true ∧ ∀ c, c < (if G B = true ∧ Fc G B = 0 then B else fst G B) → G c = false
    have h' : 0 < (if G B = true then Fc G B + 1 else Fc G B) := h
    by_cases q : G B = true ∧ Fc G B = 0
    · rw [if_pos q]
      exact ⟨by omega, q.1, (Fc_0 B).mp q.2⟩
    · rw [if_neg q]
      have p : 0 < Fc G B := by
        by_cases g : G B = true
        · rcases Nat.eq_zero_or_pos (Fc G B) with z | z
          · exact absurd ⟨g, z⟩ q
          · exact z
        · rw [if_neg g] at h'; exact h'
      obtain ⟨a, b, c⟩ := ih p
      exact ⟨by omega, b, c⟩
theorem SPl.val {P : Nat → Bool} {f : Nat → Nat} {B c k : Nat} {v m : Int32} (h : SPl P f B v m) (hc : c < B) (hp : P c = true) (hf : f c = k) (hm : ∀ c, c < B → P c = true → k ≤ f c) : v = nI k := by
  rcases h with ⟨h1, h2, h3⟩ | ⟨j, j1, j2, ⟨e, e1, e2, e3⟩, j4, j5⟩
  · rw [h3 c hc] at hp; cases hp
  · have a := j4 c hc hp
    have b := hm e e1 e2
    rw [j2, show j = k by omega]
theorem lok_mod {A : Nat → Nat → Nat} {ry : Nat} {sl st : Bool} {c d p s : Nat} : lok A ry sl st c d (p % 2) s = lok A ry sl st c d p s := by
  cases d with
  | zero => rfl
  | succ d =>
    show (alS A ry sl st (wd (A 0 0) c d) (p % 2) (decide (d = 0)) && (_ && lok A ry sl st c d ((p % 2 + A 2 (wd (A 0 0) c d)) % 2) _)) = (alS A ry sl st (wd (A 0 0) c d) p (decide (d = 0)) && (_ && lok A ry sl st c d ((p + A 2 (wd (A 0 0) c d)) % 2) _))
    unfold alS
    rw [fitS_mod, Nat.mod_add_mod]
section
variable {N : Nat} {A : Nat → Nat → Nat} {σ τ : XS} {ry : Nat} {sl st alt : Bool} {lw : Nat → Nat}
theorem firstW_c (hN : 10 ≤ N) (hC : TC A τ) (hW : TW A) (hD : DM ry sl st alt τ) {d p s k c1 w0 : Nat} (hd : d < 6) (hp : p < 50) (hs : s < 13) (hw : w0 < A 0 0) (hR : ERow A ry sl st alt lw d τ) (hR1 : ERow A ry sl st alt lw (d + 1) τ) (hL : LW A alt lw d τ) (hc1 : c1 < A 0 0 ^ d)
    (hok : lok A ry sl st (w0 * A 0 0 ^ d + c1) (d + 1) p s = true) (hch : lch A alt lw (w0 * A 0 0 ^ d + c1) (d + 1) = k) (hmin : ∀ c, c < A 0 0 ^ (d + 1) → lok A ry sl st c (d + 1) p s = true → k ≤ lch A alt lw c (d + 1)) (hfirst : ∀ c, c < w0 * A 0 0 ^ d + c1 → lok A ry sl st c (d + 1) p s = true → lch A alt lw c (d + 1) ≠ k) :
    fX2_firstWord N τ (nI (d + 1)) (nI p) (nI s) = some (nI w0, τ) := by
  have w9 := hW.1
  have hm2 : p % 2 < 2 := Nat.mod_lt _ (by decide)
  have bl : ∀ w c, w < A 0 0 → c < A 0 0 ^ d → w * A 0 0 ^ d + c < A 0 0 ^ (d + 1) := fun w c h1 h2 => by
    have : (w + 1) * A 0 0 ^ d ≤ A 0 0 * A 0 0 ^ d := Nat.mul_le_mul_right _ h1
    rw [Nat.succ_mul] at this
    rw [show A 0 0 ^ (d + 1) = A 0 0 * A 0 0 ^ d from by rw [Nat.pow_succ, Nat.mul_comm]]
    omega
  have kd : k ≤ d + 1 := by rw [← hch]; exact lch_le (d + 1)
  have hv : τ (49 + (d + 1)) (p % 2 * 13 + s) = nI k := by
    refine (hR1 (p % 2) s hm2 hs).val (c := w0 * A 0 0 ^ d + c1) (bl _ _ hw hc1) ?_ hch (fun c h1 h2 => ?_)
    · show lok A ry sl st _ (d + 1) (p % 2) s = true
      rw [lok_mod]; exact hok
    · have h3 : lok A ry sl st c (d + 1) (p % 2) s = true := h2
      rw [lok_mod] at h3
      exact hmin c h1 h3
  have key : ∀ (e w q : Nat), w + e = w0 → e < q → fX2_firstWord_L20 N (nI (d + 1)) (nI p) (nI s) (nI k) (fun x7 m8 => some (x7, m8)) (fun m9 => some ((-1), m9)) q (nI w) τ = some (nI w0, τ) := by
    intro e
    induction e with
    | zero =>
      intro w q hw2 hq
      obtain ⟨q, rfl⟩ : ∃ r, q = r + 1 := ⟨q - 1, by omega⟩
      rw [show w = w0 by omega]
      obtain ⟨u, u1, u2⟩ := with_c (N := N) (p := p) (s := s) (w := w0) hC hW hD hd (by omega) hs hw hR hL
      rw [fX2_firstWord_L20, hC.1, if_neg (nI_ge (by omega) (by omega)), u1, xB_s]
      rcases u2 with ⟨h1, h2⟩ | ⟨j, j1, j2, ⟨c, g1, g2, g3⟩, j4, j5⟩
      · rw [h2 c1 hc1] at hok; cases hok
      · have a := j4 c1 hc1 hok
        have b := hmin _ (bl w0 c hw g1) g2
        rw [j2, show j = k by omega, if_pos rfl]
    | succ e ih =>
      intro w q hw2 hq
      obtain ⟨q, rfl⟩ : ∃ r, q = r + 1 := ⟨q - 1, by omega⟩
      obtain ⟨u, u1, u2⟩ := with_c (N := N) (p := p) (s := s) (w := w) hC hW hD hd (by omega) hs (by omega) hR hL
      rw [fX2_firstWord_L20, hC.1, if_neg (nI_ge (by omega) (by omega)), u1, xB_s]
      have un : u ≠ nI k := by
        rcases u2 with ⟨h1, h2⟩ | ⟨j, j1, j2, ⟨c, g1, g2, g3⟩, j4, j5⟩
        · rw [h1]; exact fun z => ne1 (by omega) z.symm
        · rw [j2, Ne, nI_eq (by omega) (by omega)]
          intro z
          refine hfirst (w * A 0 0 ^ d + c) ?_ g2 (g3.trans z)
          have : (w + 1) * A 0 0 ^ d ≤ w0 * A 0 0 ^ d := Nat.mul_le_mul_right _ (by omega)
          rw [Nat.succ_mul] at this
          omega
      rw [if_neg un, nI_1]
      exact ih (w + 1) q (by omega) (by omega)
  unfold fX2_firstWord
  rw [leastAt_c (by omega) (by omega) (by omega), xB_s, hv, if_neg (ne1 (by omega))]
  exact key w0 0 N (by omega) (by omega)
theorem first_c (hN : 100 ≤ N) (hC : TC A σ) (hW : TW A) (hD : DM ry sl st alt σ) {n wt c0 k : Nat} (n1 : 1 ≤ n) (n6 : n ≤ 6) (hwt : wt ≤ 12) (h1 : σ 46 1 = nI wt) (hR : ∀ e, e ≤ n → ERow A ry sl st alt lw e σ) (hL : ∀ d, d < n → LW A alt lw d σ) (hc : c0 < A 0 0 ^ n)
    (hok : lok A ry sl st c0 n 0 wt = true) (hch : lch A alt lw c0 n = k) (hmin : ∀ c, c < A 0 0 ^ n → lok A ry sl st c n 0 wt = true → k ≤ lch A alt lw c n) (hfirst : ∀ c, c < c0 → lok A ry sl st c n 0 wt = true → lch A alt lw c n ≠ k) :
    ∃ τ, fX2_findFirst N σ (nI n) = some (0, τ) ∧ τ 64 1 = nI n ∧ (∀ i, i < n → τ 65 i = nI (dg (A 0 0) n c0 i)) ∧ ∀ a k, a ≠ 64 → a ≠ 65 → τ a k = σ a k := by
  have w9 := hW.1
  have hw0 : 0 < A 0 0 := by
    rcases Nat.eq_zero_or_pos (A 0 0) with e | e
    · rw [e, Nat.zero_pow (by omega)] at hc; omega
    · exact e
  have key : ∀ (d q p s c k : Nat) (τ : XS), d ≤ n → d < q → p + 4 * d ≤ 24 → s < 13 → (∀ a k, a ≠ 64 → a ≠ 65 → τ a k = σ a k) → τ 64 1 = nI (n - d) → (∀ i, i < n - d → τ 65 i = nI (dg (A 0 0) n c0 i)) → c < A 0 0 ^ d → (∀ e, e < d → wd (A 0 0) c e = wd (A 0 0) c0 e) →
      lok A ry sl st c d p s = true → lch A alt lw c d = k → (∀ c, c < A 0 0 ^ d → lok A ry sl st c d p s = true → k ≤ lch A alt lw c d) → (∀ e, e < c → lok A ry sl st e d p s = true → lch A alt lw e d ≠ k) →
      ∃ ρ, fX2_findFirst_L21 N (fun m16 => some (0, m16)) (fun m17 => some (0, m17)) q (nI p) (nI s) (nI d) τ = some (0, ρ) ∧ ρ 64 1 = nI n ∧ (∀ i, i < n → ρ 65 i = nI (dg (A 0 0) n c0 i)) ∧ ∀ a k, a ≠ 64 → a ≠ 65 → ρ a k = σ a k := by
    intro d
    induction d with
    | zero =>
      intro q p s c k τ hd hq hp hs f1 f2 f3 _ _ _ _ _ _
      obtain ⟨q, rfl⟩ : ∃ r, q = r + 1 := ⟨q - 1, by omega⟩
      rw [fX2_findFirst_L21, if_pos (by decide)]
      exact ⟨τ, rfl, f2, f3, f1⟩
    | succ d ih =>
      intro q p s c k τ hd hq hp hs f1 f2 f3 hc hdg hok hch hmin hfirst
      obtain ⟨q, rfl⟩ : ∃ r, q = r + 1 := ⟨q - 1, by omega⟩
      have hp0 : 0 < A 0 0 ^ d := Nat.pow_pos hw0
      obtain ⟨w, c1, hcw, hw, hc1⟩ : ∃ w c1, c = w * A 0 0 ^ d + c1 ∧ w < A 0 0 ∧ c1 < A 0 0 ^ d := by
        refine ⟨c / A 0 0 ^ d, c % A 0 0 ^ d, ?_, ?_, Nat.mod_lt _ hp0⟩
        · rw [Nat.mul_comm]; exact (Nat.div_add_mod _ _).symm
        · rw [Nat.div_lt_iff_lt_mul hp0, Nat.mul_comm, ← Nat.pow_succ]; exact hc
      subst hcw
      have ew : wd (A 0 0) c0 d = w := by rw [← hdg d (by omega), wd_hi hw hc1]
      have e21 : dg (A 0 0) n c0 (n - (d + 1)) = w := by
        rw [← ew]
        unfold dg wd
        rw [show n - 1 - (n - (d + 1)) = d by omega]
      obtain ⟨k1', k2', k3', -⟩ := hW.2.2.2.2.1 w hw
      have hC' : TC A τ := hC.eq (fun a k g1 g2 => f1 a k (by omega) (by omega))
      have hD' : DM ry sl st alt τ := ⟨fun z => (f1 _ _ (by omega) (by omega)).trans (hD.1 z), fun z => ⟨(hD.2.1 z).1, (f1 _ _ (by omega) (by omega)).trans (hD.2.1 z).2⟩, (f1 _ _ (by omega) (by omega)).trans hD.2.2.1, (f1 _ _ (by omega) (by omega)).trans hD.2.2.2.1, (f1 _ _ (by omega) (by omega)).trans hD.2.2.2.2⟩
      have hR' : ∀ e, e ≤ n → ERow A ry sl st alt lw e τ := fun e he p s g1 g2 => by
        rw [f1 _ _ (by omega) (by omega), f1 _ _ (by omega) (by omega)]
        exact hR e he p s g1 g2
      have hL' : LW A alt lw d τ := fun al => by
        obtain ⟨m, l, q1, q2, q3⟩ := hL d (by omega) al
        exact ⟨m, l, ⟨hC', hW, (f1 _ _ (by omega) (by omega)).trans q1.2.2.1, q1.2.2.2.1, fun j hj => ⟨(q1.2.2.2.2 j hj).1, (f1 _ _ (by omega) (by omega)).trans (q1.2.2.2.2 j hj).2⟩⟩, q2, q3⟩
      have fw := firstW_c (N := N) (by omega) hC' hW hD' (show d < 6 by omega) (show p < 50 by omega) hs hw (hR' d (by omega)) (hR' (d + 1) (by omega)) hL' hc1 hok hch hmin hfirst
      have ok2 := hok
      rw [lok_bl hw hc1, Bool.and_eq_true, Bool.and_eq_true] at ok2
      obtain ⟨al1, ct1, ok3⟩ := ok2
      have ct2 := of_decide_eq_true ct1
      have ad : fX4_add N τ 64 (nI w) = some (nI (n - d), xUp (xUp τ 65 (n - (d + 1)) (nI w)) 64 1 (nI (n - d))) := by
        unfold fX4_add
        rw [f2, l6, if_neg (nI_ge (by omega) (by omega)), xin_t (by omega) (by decide), xLet_e, gd_t, xLet_e, nI_clamp (by omega), up_s, up_c (by omega), f2, nI_1, show n - (d + 1) + 1 = n - d by omega]
      have hC2 : TC A (xUp (xUp τ 65 (n - (d + 1)) (nI w)) 64 1 (nI (n - d))) := hC'.eq (fun a k g1 g2 => by rw [up_c (by omega), up_c (by omega)])
      have hD2 : DM ry sl st alt (xUp (xUp τ 65 (n - (d + 1)) (nI w)) 64 1 (nI (n - d))) := ⟨fun z => by rw [up_c (by omega), up_c (by omega)]; exact hD'.1 z, fun z => ⟨(hD'.2.1 z).1, by rw [up_c (by omega), up_c (by omega)]; exact (hD'.2.1 z).2⟩, by rw [up_c (by omega), up_c (by omega)]; exact hD'.2.2.1, by rw [up_c (by omega), up_c (by omega)]; exact hD'.2.2.2.1, by rw [up_c (by omega), up_c (by omega)]; exact hD'.2.2.2.2⟩
      have hfl : ∀ T : Int32 → Option XO, (if nI (d + 1) = (1 : Int32) then T 1 else T 0) = T (b2i (decide (d = 0))) := fun T => by
        by_cases z : d = 0
        · rw [z, if_pos (by rfl)]; rfl
        · rw [if_neg (by rw [l1, nI_eq (by omega) (by omega)]; omega), decide_eq_false z]; rfl
      have e0 : ¬ nI (d + 1) < 1 := by rw [l1]; exact nI_nlt (by omega) (by omega)
      rw [fX2_findFirst_L21, if_neg e0, fw, xB_s, if_neg (ne1 (by omega)), ad, xB_s]
      have e := hfl (fun t => fX2_findFirst_J72 N (nI p) (nI (d + 1)) (nI w) t (nI w) (nI s) (fX2_findFirst_L21 N (fun m16 => some (0, m16)) (fun m17 => some (0, m17)) q) (xUp (xUp τ 65 (n - (d + 1)) (nI w)) 64 1 (nI (n - d))))
      have chg : ∀ c, c < A 0 0 ^ d → lch A alt lw (w * A 0 0 ^ d + c) (d + 1) = (if alt = true ∧ lw d ≠ w then 1 else 0) + lch A alt lw c d := fun c h => lch_bl hw h
      have okb : ∀ c, c < A 0 0 ^ d → lok A ry sl st c d (p + A 2 w) (s - ctS A sl w (decide (d = 0))) = true → lok A ry sl st (w * A 0 0 ^ d + c) (d + 1) p s = true := fun c h g => by
        rw [lok_bl hw h, al1, ct1, lok_mod, g]; rfl
      have bl : ∀ c, c < A 0 0 ^ d → w * A 0 0 ^ d + c < A 0 0 ^ (d + 1) := fun c h2 => by
        have : (w + 1) * A 0 0 ^ d ≤ A 0 0 * A 0 0 ^ d := Nat.mul_le_mul_right _ hw
        rw [Nat.succ_mul] at this
        rw [show A 0 0 ^ (d + 1) = A 0 0 * A 0 0 ^ d from by rw [Nat.pow_succ, Nat.mul_comm]]
        omega
      have st1 := chg c1 hc1
      rw [hch] at st1
      have jj : fX2_findFirst_J72 N (nI p) (nI (d + 1)) (nI w) (b2i (decide (d = 0))) (nI w) (nI s) (fX2_findFirst_L21 N (fun m16 => some (0, m16)) (fun m17 => some (0, m17)) q) (xUp (xUp τ 65 (n - (d + 1)) (nI w)) 64 1 (nI (n - d))) = fX2_findFirst_L21 N (fun m16 => some (0, m16)) (fun m17 => some (0, m17)) q (nI (p + A 2 w)) (nI (s - ctS A sl w (decide (d = 0)))) (nI d) (xUp (xUp τ 65 (n - (d + 1)) (nI w)) 64 1 (nI (n - d))) := by
        unfold fX2_findFirst_J72
        rw [countOf_c hC2 hW hD2 hw, xB_s, syl_at hC2 hW hw, xB_s, nI_add, pk_sub ct2, sub_m1, nI_pred']
      rw [e, jj]
      refine ih q (p + A 2 w) (s - ctS A sl w (decide (d = 0))) c1 (lch A alt lw c1 d) _ (by omega) (by omega) (by omega) (by omega) (fun a k g1 g2 => by rw [up_c (by omega), up_c (by omega)]; exact f1 a k g1 g2) up_s (fun i hi => ?_) hc1 (fun x hx => by rw [← hdg x (by omega), wd_lo hw0 hx]) (by rw [← lok_mod]; exact ok3) rfl (fun x hx g => ?_) (fun x hx g z => ?_)
      · rw [up_c (by omega)]
        by_cases y : i = n - (d + 1)
        · subst y
          rw [up_s, e21]
        · rw [up_c (by omega)]
          exact f3 i (by omega)
      · have a1 := hmin _ (bl x hx) (okb x hx g)
        rw [chg x hx] at a1
        omega
      · have hx2 : x < A 0 0 ^ d := by omega
        refine hfirst (w * A 0 0 ^ d + x) (by omega) (okb x hx2 g) ?_
        rw [chg x hx2, z]
        exact st1.symm
  unfold fX2_findFirst
  have clr : fX4_clear N σ 64 = some (σ 64 1, xUp σ 64 1 0) := by unfold fX4_clear; rw [xLet_e]
  rw [clr, xB_s, up_c (by omega), h1]
  exact key n N 0 wt c0 k _ (Nat.le_refl _) (by omega) (by omega) (by omega) (fun a k g1 g2 => up_c (by omega)) (by rw [up_s, Nat.sub_self]; rfl) (fun i hi => by omega) hc (fun _ _ => rfl) hok hch hmin hfirst
end
