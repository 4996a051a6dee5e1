/-! ALTERED -/
theorem fl_tie {A : Nat → Nat → Nat} {lw l : Nat → Nat} {n c : Nat} (hl : ∀ e, e < n → lw e = l (n - (e + 1))) : ∀ d, d ≤ n → cn (fun i => decide (dg (A 0 0) n c i ≠ l i)) d (n - d) 0 = lch A true lw c d := by
  intro d
  induction d with
  | zero => intro _; rfl
  | succ d ih =>
    intro h
    have e2 : dg (A 0 0) n c (n - (d + 1)) = wd (A 0 0) c d := by
      unfold dg wd
      rw [show n - 1 - (n - (d + 1)) = d by omega]
    show cn (fun i => decide (dg (A 0 0) n c i ≠ l i)) d (n - (d + 1) + 1) (if decide (dg (A 0 0) n c (n - (d + 1)) ≠ l (n - (d + 1))) = true then 0 + 1 else 0) = (if true = true ∧ lw d ≠ wd (A 0 0) c d then 1 else 0) + lch A true lw c d
    rw [cn_acc, show n - (d + 1) + 1 = n - d by omega, ih (by omega), e2, ← hl d (by omega)]
    by_cases q : lw d = wd (A 0 0) c d
    · rw [if_neg (by simp [q]), if_neg (fun g => g.2 q)]
    · rw [if_pos (by simp only [decide_eq_true_iff]; exact fun g => q g.symm), if_pos ⟨rfl, q⟩]
section
variable {N : Nat} {A : Nat → Nat → Nat} {σ τ : XS} {ry : Nat} {sl st : Bool} {lw l : Nat → Nat} {n : Nat}
theorem changes_m (hN : 10 ≤ N) (hW : TW A) (n6 : n ≤ 6) (h6 : σ 85 6 = nI n) (h90 : ∀ i, i < n → l i < A 0 0 ∧ σ 90 i = nI (l i)) {g : Nat → Nat} (h94 : ∀ i, i < n → g i < A 0 0 ∧ σ 94 i = nI (g i)) {v1 v2 v3 v4 v5 v6 : Int32} {k : Int32 → XS → Option XO} : fX10_altered_L70 N v1 v2 v3 v4 v5 v6 k N 0 0 σ = k (nI (cn (fun i => decide (g i ≠ l i)) n 0 0)) σ := by
  have w9 := hW.1
  have key : ∀ (d i q acc : Nat), i + d = n → d < q → fX10_altered_L70 N v1 v2 v3 v4 v5 v6 k q (nI acc) (nI i) σ = k (nI (cn (fun i => decide (g i ≠ l i)) d i acc)) σ := by
    intro d
    induction d with
    | zero =>
      intro i q acc hi hq
      obtain ⟨q, rfl⟩ : ∃ r, q = r + 1 := ⟨q - 1, by omega⟩
      rw [fX10_altered_L70, h6, if_pos (nI_le (by omega) (by omega))]; rfl
    | succ d ih =>
      intro i q acc hi hq
      obtain ⟨q, rfl⟩ : ∃ r, q = r + 1 := ⟨q - 1, by omega⟩
      obtain ⟨l1', l2'⟩ := h90 i (by omega)
      obtain ⟨g1, g2⟩ := h94 i (by omega)
      rw [fX10_altered_L70, h6, if_neg (nI_ge (by omega) (by omega)), xin_t (by omega) (by decide), gd_t, gd_t, nI_clamp (by omega), l2', g2]
      have un : cn (fun i => decide (g i ≠ l i)) (d + 1) i acc = cn (fun i => decide (g i ≠ l i)) d (i + 1) (if decide (g i ≠ l i) = true then acc + 1 else acc) := rfl
      rw [un]
      by_cases z : g i = l i
      · rw [if_pos (by rw [z]), if_neg (by simp [z]), Int32.add_zero, nI_1]
        exact ih (i + 1) q acc (by omega) (by omega)
      · rw [if_neg (by rw [nI_eq (by omega) (by omega)]; exact z), if_pos (decide_eq_true z), nI_1, nI_1]
        exact ih (i + 1) q (acc + 1) (by omega) (by omega)
  exact key n 0 N 0 (by omega) (by omega)
theorem copy_m (hN : 10 ≤ N) (n6 : n ≤ 6) (h6 : σ 85 6 = nI n) {v1 v2 v3 v4 v5 v6 : Int32} {k : XS → Option XO} : ∃ τ, fX10_altered_L149 N v1 v2 v3 v4 v5 v6 k N 0 σ = k τ ∧ (∀ i, i < n → τ 95 i = σ 94 i) ∧ ∀ a k, a ≠ 95 → τ a k = σ a k := by
  have key : ∀ (d i q : Nat) (τ : XS), i + d = n → d < q → (∀ a k, a ≠ 95 → τ a k = σ a k) → (∀ j, j < i → τ 95 j = σ 94 j) → ∃ ρ, fX10_altered_L149 N v1 v2 v3 v4 v5 v6 k q (nI i) τ = k ρ ∧ (∀ i, i < n → ρ 95 i = σ 94 i) ∧ ∀ a k, a ≠ 95 → ρ a k = σ a k := by
    intro d
    induction d with
    | zero =>
      intro i q τ hi hq f1 f2
      obtain ⟨q, rfl⟩ : ∃ r, q = r + 1 := ⟨q - 1, by omega⟩
      rw [fX10_altered_L149, f1 85 6 (by omega), h6, if_pos (nI_le (by omega) (by omega))]
      exact ⟨τ, rfl, fun j hj => f2 j (by omega), f1⟩
    | succ d ih =>
      intro i q τ hi hq f1 f2
      obtain ⟨q, rfl⟩ : ∃ r, q = r + 1 := ⟨q - 1, by omega⟩
      rw [fX10_altered_L149, f1 85 6 (by omega), h6, if_neg (nI_ge (by omega) (by omega)), xin_t (by omega) (by decide), gd_t, xLet_e, gd_t, nI_clamp (by omega), f1 94 i (by omega), nI_1]
      refine ih (i + 1) q _ (by omega) (by omega) (fun a k g => by rw [up_c (by omega)]; exact f1 a k g) (fun j hj => ?_)
      by_cases e : j = i
      · subst e; rw [up_s]
      · rw [up_c (by omega)]; exact f2 j (by omega)
  exact key n 0 N σ (by omega) (by omega) (fun _ _ _ => rfl) (fun j hj => by omega)
/-- least change so far and the first code of it -/
def AI (P : Nat → Bool) (f : Nat → Nat) (D : Nat → Nat → Nat) (n c : Nat) (v : Int32) (τ : XS) : Prop := (v = -1 ∧ ∀ e, e < c → P e = false) ∨ ∃ k c0, k < 100 ∧ v = nI k ∧ c0 < c ∧ P c0 = true ∧ f c0 = k ∧ (∀ e, e < c → P e = true → k ≤ f e) ∧ (∀ e, e < c0 → P e = true → f e ≠ k) ∧ ∀ i, i < n → τ 95 i = nI (D c0 i)
theorem altered_m (hN : 1000000 ≤ N) (hM : TM A (σ 86)) (hW : TW A) {a cl : Nat} (hw0 : 0 < A 0 0) (ha : a < A 0 1) (hc : cl < A 0 2) (n6 : n ≤ 6) (h6 : σ 85 6 = nI n) (h90 : ∀ i, i < n → l i < A 0 0 ∧ σ 90 i = nI (l i)) (hl : ∀ e, e < n → lw e = l (n - (e + 1))) {v3 : Int32} {k : Int32 → XS → Option XO} :
    ∃ v τ, fX10_altered_L47 N (nI a) (nI cl) v3 (nI (A 0 0 ^ n)) k N (-1) 0 σ = k v τ ∧ AI (fun c => passS A (dg (A 0 0) n c) n a (A 8 cl)) (fun c => lch A true lw c n) (dg (A 0 0) n) n (A 0 0 ^ n) v τ ∧ ∀ a k, a ≠ 94 → a ≠ 95 → τ a k = σ a k := by
  have w9 := hW.1
  have hpow : A 0 0 ^ n ≤ 531441 := by
    have e1 : A 0 0 ^ n ≤ 9 ^ n := Nat.pow_le_pow_left w9 n
    have e2 : 9 ^ n ≤ 9 ^ 6 := Nat.pow_le_pow_right (by decide) n6
    have e3 : 9 ^ 6 = 531441 := rfl
    omega
  have key : ∀ (d c q : Nat) (v : Int32) (τ : XS), c + d = A 0 0 ^ n → d < q → (∀ a k, a ≠ 94 → a ≠ 95 → τ a k = σ a k) → AI (fun c => passS A (dg (A 0 0) n c) n a (A 8 cl)) (fun c => lch A true lw c n) (dg (A 0 0) n) n c v τ → ∃ z ρ, fX10_altered_L47 N (nI a) (nI cl) v3 (nI (A 0 0 ^ n)) k q v (nI c) τ = k z ρ ∧ AI (fun c => passS A (dg (A 0 0) n c) n a (A 8 cl)) (fun c => lch A true lw c n) (dg (A 0 0) n) n (A 0 0 ^ n) z ρ ∧ ∀ a k, a ≠ 94 → a ≠ 95 → ρ a k = σ a k := by
    intro d
    induction d with
    | zero =>
      intro c q v τ hd hq f1 f2
      obtain ⟨q, rfl⟩ : ∃ r, q = r + 1 := ⟨q - 1, by omega⟩
      rw [fX10_altered_L47, if_pos (nI_le (by omega) (by omega))]
      rw [show c = A 0 0 ^ n by omega] at f2
      exact ⟨v, τ, rfl, f2, f1⟩
    | succ d ih =>
      intro c q v τ hd hq f1 f2
      obtain ⟨q, rfl⟩ : ∃ r, q = r + 1 := ⟨q - 1, by omega⟩
      obtain ⟨ν, v1, v2, v3'⟩ := lays_m (N := N) (σ := τ) (W := A 0 0) (n := n) (c := c) (by omega) ((f1 _ _ (by omega) (by omega)).trans hM.1) hw0 (by omega) (by omega) (by omega)
      have fr : ∀ a k, a ≠ 94 → a ≠ 95 → ν a k = σ a k := fun a k g1 g2 => (v3' a k g1).trans (f1 a k g1 g2)
      have h6' : ν 85 6 = nI n := (fr _ _ (by omega) (by omega)).trans h6
      have hL : MLn A ν 94 n (dg (A 0 0) n c) := ⟨hM.eqL hW (fun k _ => fr _ _ (by omega) (by omega)), hW, by show n ≤ 6; omega, by decide, fun i hi => ⟨dg_lt hw0, v2 i hi⟩⟩
      have ft := fl_tie (A := A) (c := c) hl n (Nat.le_refl _)
      rw [Nat.sub_self] at ft
      have lle := lch_le (A := A) (alt := true) (lw := lw) (c := c) n
      rw [fX10_altered_L47, if_neg (nI_ge (by omega) (by omega)), f1 85 6 (by omega) (by omega), h6, v1, xB_s, changes_m (N := N) (σ := ν) (by omega) hW n6 h6' (fun i hi => ⟨(h90 i hi).1, (fr _ _ (by omega) (by omega)).trans (h90 i hi).2⟩) (fun i hi => ⟨dg_lt hw0, v2 i hi⟩), ft, nI_1]
      -- a line that isn't better, or doesn't pass
      have skip : (∀ kk, v = nI kk → kk < 100 → passS A (dg (A 0 0) n c) n a (A 8 cl) = true → kk ≤ lch A true lw c n) → (v = -1 → passS A (dg (A 0 0) n c) n a (A 8 cl) = false) → AI (fun c => passS A (dg (A 0 0) n c) n a (A 8 cl)) (fun c => lch A true lw c n) (dg (A 0 0) n) n (c + 1) v ν := by
        intro g1 g2
        rcases f2 with ⟨h1, h2⟩ | ⟨kk, c0, k1, k2, k3, k4, k5, k6, k7, k8⟩
        · refine Or.inl ⟨h1, fun e he => ?_⟩
          by_cases z : e = c
          · subst z; exact g2 h1
          · exact h2 e (by omega)
        · refine Or.inr ⟨kk, c0, k1, k2, by omega, k4, k5, fun e he hp => ?_, k7, fun i hi => (v3' _ _ (by omega)).trans (k8 i hi)⟩
          by_cases z : e = c
          · subst z; exact g1 kk k2 k1 hp
          · exact k6 e (by omega) hp
      have try1 : (v = -1 ∨ ∃ kk, v = nI kk ∧ kk < 100 ∧ lch A true lw c n < kk) → ∃ z ρ, fX10_altered_J125 N (nI a) (nI cl) v3 v (nI (A 0 0 ^ n)) (nI c) (nI (lch A true lw c n)) (fX10_altered_L47 N (nI a) (nI cl) v3 (nI (A 0 0 ^ n)) k q) ν = k z ρ ∧ AI (fun c => passS A (dg (A 0 0) n c) n a (A 8 cl)) (fun c => lch A true lw c n) (dg (A 0 0) n) n (A 0 0 ^ n) z ρ ∧ ∀ a k, a ≠ 94 → a ≠ 95 → ρ a k = σ a k := by
        intro hv
        unfold fX10_altered_J125
        rw [h6', passed_m (by omega) hL ha hc, xB_s, b2i0, nI_1]
        by_cases p : passS A (dg (A 0 0) n c) n a (A 8 cl) = true
        · rw [if_pos p]
          obtain ⟨μ, m1, m2, m3⟩ := copy_m (N := N) (σ := ν) (n := n) (v1 := nI a) (v2 := nI cl) (v3 := v3) (v4 := nI (lch A true lw c n)) (v5 := nI (A 0 0 ^ n)) (v6 := nI c) (k := fun m18 => fX10_altered_L47 N (nI a) (nI cl) v3 (nI (A 0 0 ^ n)) k q (nI (lch A true lw c n)) (nI (c + 1)) m18) (by omega) n6 h6'
          rw [m1]
          refine ih (c + 1) q _ μ (by omega) (by omega) (fun a k g1 g2 => (m3 a k g2).trans (fr a k g1 g2)) (Or.inr ⟨lch A true lw c n, c, by omega, rfl, by omega, p, rfl, fun e he hp => ?_, fun e he hp => ?_, fun i hi => (m2 i hi).trans (v2 i hi)⟩)
          · by_cases z : e = c
            · subst z; exact Nat.le_refl _
            · rcases f2 with ⟨h1, h2⟩ | ⟨kk, c0, k1, k2, k3, k4, k5, k6, k7, k8⟩
              · rw [h2 e (by omega)] at hp; cases hp
              · have := k6 e (by omega) hp
                rcases hv with hv | ⟨k', e1, e2, e3⟩
                · rw [k2] at hv; exact absurd hv (ne1 (by omega))
                · have e4 : kk = k' := (nI_eq (by omega) (by omega)).mp (k2.symm.trans e1)
                  show _ ≤ lch A true lw e n
                  have t : kk ≤ lch A true lw e n := this
                  omega
          · rcases f2 with ⟨h1, h2⟩ | ⟨kk, c0, k1, k2, k3, k4, k5, k6, k7, k8⟩
            · rw [h2 e (by omega)] at hp; cases hp
            · have t : kk ≤ lch A true lw e n := k6 e (by omega) hp
              rcases hv with hv | ⟨k', e1, e2, e3⟩
              · rw [k2] at hv; exact absurd hv (ne1 (by omega))
              · have e4 : kk = k' := (nI_eq (by omega) (by omega)).mp (k2.symm.trans e1)
                show lch A true lw e n ≠ _
                omega
        · have p2 : passS A (dg (A 0 0) n c) n a (A 8 cl) = false := by cases g : passS A (dg (A 0 0) n c) n a (A 8 cl); rfl; exact absurd g p
          rw [if_neg p]
          exact ih (c + 1) q v ν (by omega) (by omega) fr (skip (fun kk _ _ h => absurd h p) (fun _ => p2))
      by_cases vn : v = -1
      · rw [if_pos vn]
        exact try1 (Or.inl vn)
      · rw [if_neg vn]
        rcases id f2 with ⟨h1, h2⟩ | ⟨kk, c0, k1, k2, k3, k4, k5, k6, k7, k8⟩
        · exact absurd h1 vn
        · by_cases le : kk ≤ lch A true lw c n
          · rw [if_pos (by rw [k2]; exact nI_le le (by omega))]
            exact ih (c + 1) q v ν (by omega) (by omega) fr (skip (fun k' e1 e2 _ => by
              have : kk = k' := (nI_eq (by omega) (by omega)).mp (k2.symm.trans e1)
              omega) (fun h => absurd h vn))
          · rw [if_neg (by rw [k2]; exact nI_ge (by omega) (by omega))]
            exact try1 (Or.inr ⟨kk, k2, k1, by omega⟩)
  exact key (A 0 0 ^ n) 0 N (-1) σ (by omega) (by omega) (fun _ _ _ _ => rfl) (Or.inl ⟨rfl, fun e he => by omega⟩)
end
