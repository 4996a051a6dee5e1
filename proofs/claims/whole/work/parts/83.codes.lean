/-! CODES: the lines of n words, counted through -/
def dg (W n c i : Nat) : Nat := c / W ^ (n - 1 - i) % W
theorem dg_lt {W n c i : Nat} (h : 0 < W) : dg W n c i < W := Nat.mod_lt _ h
theorem sub_m1 (x : Int32) : x + -1 = x - 1 := (Int32.sub_eq_add_neg x 1).symm
theorem nI_pred' {d : Nat} : nI (d + 1) - 1 = nI d := by rw [l1, pk_sub (by omega)]; rfl
section
variable {N : Nat} {A : Nat → Nat → Nat} {σ : XS}
theorem ways_m (hN : 10 ≤ N) {W n : Nat} (h : σ 86 0 = nI W) (hn : n < 10) : fX10_ways N σ (nI n) = some (nI (W ^ n), σ) := by
  have key : ∀ (d i m : Nat), i + d = n → d < m → fX10_ways_L4 N (nI n) (fun x2 m3 => some (x2, m3)) m (nI (W ^ i)) (nI i) σ = some (nI (W ^ n), σ) := by
    intro d
    induction d with
    | zero =>
      intro i m hi hm
      obtain ⟨m, rfl⟩ : ∃ q, m = q + 1 := ⟨m - 1, by omega⟩
      rw [fX10_ways_L4, if_pos (nI_le (by omega) (by omega)), show i = n by omega]
    | succ d ih =>
      intro i m hi hm
      obtain ⟨m, rfl⟩ : ∃ q, m = q + 1 := ⟨m - 1, by omega⟩
      rw [fX10_ways_L4, if_neg (nI_ge (by omega) (by omega)), xin098, gd_t, c0, h, pk_mul, xLetI_e, nI_1, ← Nat.pow_succ]
      exact ih (i + 1) m (by omega) (by omega)
  exact key n 0 N (by omega) (by omega)
theorem linesOf_c (hN : 10 ≤ N) {W n : Nat} (h : σ 1 9 = nI W) (hn : n ≤ 6) : fX8_linesOf N σ (nI n) = some (nI (W ^ n), σ) := by
  have key : ∀ (d i m : Nat), i + d = n → d < m → fX8_linesOf_L4 N (nI n) (fun x1 m2 => some (x1, m2)) m (nI (W ^ i)) (nI i) σ = some (nI (W ^ n), σ) := by
    intro d
    induction d with
    | zero =>
      intro i m hi hm
      obtain ⟨m, rfl⟩ : ∃ q, m = q + 1 := ⟨m - 1, by omega⟩
      rw [fX8_linesOf_L4, if_pos (nI_le (by omega) (by omega)), show i = n by omega]
    | succ d ih =>
      intro i m hi hm
      obtain ⟨m, rfl⟩ : ∃ q, m = q + 1 := ⟨m - 1, by omega⟩
      rw [fX8_linesOf_L4, if_neg (nI_ge (by omega) (by omega)), l6, if_neg (nI_ge (by omega) (by omega)), h, pk_mul, nI_1, ← Nat.pow_succ]
      exact ih (i + 1) m (by omega) (by omega)
  exact key n 0 N (by omega) (by omega)
theorem div_dg {W n c d : Nat} (hd : d < n) : c / W ^ (n - (d + 1)) / W = c / W ^ (n - d) := by
  rw [Nat.div_div_eq_div_mul, ← Nat.pow_succ]
  congr 2
  omega
theorem lays_m (hN : 10 ≤ N) {W n c : Nat} (h : σ 86 0 = nI W) (hW : 0 < W) (hW9 : W < 100) (hn : n ≤ 6) (hc : c < 2 ^ 31) : ∃ σ', fX10_lays N σ (nI c) (nI n) = some (0, σ') ∧ (∀ i, i < n → σ' 94 i = nI (dg W n c i)) ∧ ∀ a k, a ≠ 94 → σ' a k = σ a k := by
  have key : ∀ (d m : Nat) (τ : XS), d ≤ n → d < m → (∀ a k, a ≠ 94 → τ a k = σ a k) → (∀ i, d ≤ i → i < n → τ 94 i = nI (dg W n c i)) → ∃ σ', fX10_lays_L7 N (fun m5 => some (0, m5)) m (nI (c / W ^ (n - d))) (nI d - 1) τ = some (0, σ') ∧ (∀ i, i < n → σ' 94 i = nI (dg W n c i)) ∧ ∀ a k, a ≠ 94 → σ' a k = σ a k := by
    intro d
    induction d with
    | zero =>
      intro m τ hd hm h1 h2
      obtain ⟨m, rfl⟩ : ∃ q, m = q + 1 := ⟨m - 1, by omega⟩
      rw [fX10_lays_L7, if_pos (by decide)]
      exact ⟨τ, rfl, fun i hi => h2 i (by omega) hi, h1⟩
    | succ d ih =>
      intro m τ hd hm h1 h2
      obtain ⟨m, rfl⟩ : ∃ q, m = q + 1 := ⟨m - 1, by omega⟩
      have hq : c / W ^ (n - (d + 1)) < 2 ^ 31 := Nat.lt_of_le_of_lt (Nat.div_le_self _ _) hc
      have e0 : τ 86 0 = nI W := (h1 _ _ (by omega)).trans h
      have nz : ¬ nI W = 0 := nI_ne0 hW (by omega)
      rw [fX10_lays_L7, nI_pred', if_neg (nI_pos (by omega)), xin098, gd_t, c0, e0, decide_eq_false nz, Bool.not_false, gd_t, xLet_e, xin_t (by omega) (by decide), gd_t, gd_t, up_c (by omega), e0, decide_eq_false nz, Bool.not_false, gd_t, xLetI_e, pk_rem hq hW (by omega), pk_div hq hW (by omega), div_dg (by omega), sub_m1, nI_clamp (by omega)]
      refine ih m _ (by omega) (by omega) (fun a k ha => by rw [up_c (by omega)]; exact h1 a k ha) (fun i hi hi2 => ?_)
      by_cases e : i = d
      · subst e
        rw [up_s]
        unfold dg
        rw [show n - 1 - i = n - (i + 1) by omega]
      · rw [up_c (by omega)]
        exact h2 i (by omega) hi2
  have := key n N σ (Nat.le_refl _) (by omega) (fun _ _ _ => rfl) (fun i h1 h2 => by omega)
  rw [Nat.sub_self, Nat.pow_zero, Nat.div_one] at this
  exact this
end
theorem mod_next {x W : Nat} (hW : 0 < W) : (x + 1) % W = if x % W + 1 = W then 0 else x % W + 1 := by
  have hl := Nat.mod_lt x hW
  by_cases q : x % W + 1 = W
  · rw [if_pos q, ← Nat.mod_add_mod, q, Nat.mod_self]
  · rw [if_neg q, ← Nat.mod_add_mod, Nat.mod_eq_of_lt (by omega)]
theorem dg_next {W n c i : Nat} : dg W n (c + 1) i = if (c + 1) % W ^ (n - 1 - i) = 0 then (c / W ^ (n - 1 - i) + 1) % W else dg W n c i := by
  unfold dg
  by_cases q : (c + 1) % W ^ (n - 1 - i) = 0
  · rw [if_pos q, Nat.succ_div, if_pos (Nat.dvd_of_mod_eq_zero q)]
  · rw [if_neg q, Nat.succ_div, if_neg (fun h => q (Nat.mod_eq_zero_of_dvd h)), Nat.add_zero]
/-- carried on -/
theorem carry {W c k : Nat} (hW : 0 < W) (h : (c + 1) % W ^ k = 0) : (c + 1) % W ^ (k + 1) = 0 ↔ c / W ^ k % W + 1 = W := by
  have hs : (c + 1) / W ^ k = c / W ^ k + 1 := by rw [Nat.succ_div, if_pos (Nat.dvd_of_mod_eq_zero h)]
  have p : 0 < W ^ k := Nat.pow_pos hW
  rw [Nat.pow_succ, Nat.mod_mul, h, hs, Nat.zero_add, mod_next hW]
  by_cases q : c / W ^ k % W + 1 = W
  · rw [if_pos q, Nat.mul_zero]
    exact ⟨fun _ => q, fun _ => rfl⟩
  · rw [if_neg q]
    exact ⟨fun h => by have := Nat.mul_pos p (show 0 < c / W ^ k % W + 1 by omega); omega, fun h => absurd h q⟩
theorem no_carry {W c k j : Nat} (h : ¬ (c + 1) % W ^ k = 0) (hj : k ≤ j) : ¬ (c + 1) % W ^ j = 0 := fun q => h (Nat.mod_eq_zero_of_dvd (Nat.dvd_trans (Nat.pow_dvd_pow W hj) (Nat.dvd_of_mod_eq_zero q)))
theorem dg_0 {W n i : Nat} : dg W n 0 i = 0 := by unfold dg; rw [Nat.zero_div, Nat.zero_mod]
