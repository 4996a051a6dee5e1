/-! SHORTESTWORD -/
theorem shL_spec {G : Nat → Nat → Bool} {W : Nat} : ∀ d m, 1 ≤ m → shL G W d m = 0 ∨ (m ≤ shL G W d m ∧ shL G W d m < m + d ∧ Fc (G (shL G W d m)) (W ^ (shL G W d m)) ≠ 0) := by
  intro d
  induction d with
  | zero => intro m _; exact Or.inl rfl
  | succ d ih =>
    intro m hm
    have un : shL G W (d + 1) m = if Fc (G m) (W ^ m) = 0 then shL G W d (m + 1) else m := rfl
    rw [un]
    by_cases z : Fc (G m) (W ^ m) = 0
    · rw [if_pos z]
      rcases ih (m + 1) (by omega) with h | ⟨h1, h2, h3⟩
      · exact Or.inl h
      · exact Or.inr ⟨by omega, by omega, h3⟩
    · rw [if_neg z]
      exact Or.inr ⟨by omega, by omega, z⟩
section
variable {N : Nat} {A : Nat → Nat → Nat} {σ τ : XS} {ry : Nat} {sl st : Bool}
/-- fewest words, then the first such line in the ending list -/
theorem found_c (hN : 100 ≤ N) (hC : TC A σ) (hW : TW A) (hD : DK ry sl st σ) {wt : Nat} (hwt : wt ≤ 12) (h1 : σ 46 1 = nI wt) {n : Nat} (hn : n = shL (fun n c => lok A ry sl st c n 0 wt) (A 0 0) 4 1) :
    ∃ τ ρ, fX2_fewestWords N σ = some (if n = 0 then -1 else nI n, τ) ∧ fX2_findFirst N τ (if n = 0 then -1 else nI n) = some (0, ρ) ∧ n ≤ 4 ∧ ρ 64 1 = nI n ∧ (∀ i, i < n → ρ 65 i = nI (dg (A 0 0) n (fst (fun c => lok A ry sl st c n 0 wt) (A 0 0 ^ n)) i)) ∧ (n ≠ 0 → 0 < Fc (fun c => lok A ry sl st c n 0 wt) (A 0 0 ^ n)) ∧ ∀ a k, ¬ sr a → a ≠ 64 → a ≠ 65 → ρ a k = σ a k := by
  obtain ⟨τ, t1, t2, t3, t4⟩ := fewest_c (N := N) hN hC hW hD hwt h1 hn
  by_cases z : n = 0
  · have ff : fX2_findFirst N τ (-1) = some (0, xUp τ 64 1 0) := by
      obtain ⟨q, hq⟩ : ∃ q, N = q + 1 := ⟨N - 1, by omega⟩
      have e : ∀ (q : Nat) (x y : Int32) (μ : XS), fX2_findFirst_L21 N (fun m16 => some (0, m16)) (fun m17 => some (0, m17)) (q + 1) x y (-1) μ = some (0, μ) := fun q x y μ => by
        rw [fX2_findFirst_L21, if_pos (by decide)]
      unfold fX2_findFirst
      have clr : fX4_clear N τ 64 = some (τ 64 1, xUp τ 64 1 0) := by unfold fX4_clear; rw [xLet_e]
      rw [clr, xB_s]
      have := e (N - 1) 0 ((xUp τ 64 1 0) 46 1) (xUp τ 64 1 0)
      rw [show N - 1 + 1 = N by omega] at this
      exact this
    refine ⟨τ, xUp τ 64 1 0, t1, by rw [if_pos z]; exact ff, by omega, by rw [up_s, z]; rfl, fun i hi => by omega, fun h => absurd z h, fun a k g1 g2 g3 => by rw [up_c (by omega)]; exact t4 a k g1⟩
  · rcases shL_spec (G := fun n c => lok A ry sl st c n 0 wt) (W := A 0 0) 4 1 (by omega) with h | ⟨g1, g2, g3⟩
    · omega
    · rw [← hn] at g1 g2 g3
      have hp : 0 < Fc (fun c => lok A ry sl st c n 0 wt) (A 0 0 ^ n) := Nat.pos_of_ne_zero g3
      obtain ⟨f1, f2, f3⟩ := fst_spec _ hp
      obtain ⟨ρ, r1, r2, r3, r4⟩ := first_c (N := N) (σ := τ) (alt := false) (lw := fun _ => 0) (k := 0) hN (hC.eq (fun a k g1 g2 => t4 a k (by unfold sr; omega))) hW t3 g1 (by omega) hwt ((t4 _ _ (by unfold sr; omega)).trans h1) t2 (fun d _ => no_lw) f1 f2 (lch_0 n) (fun _ _ _ => Nat.zero_le _) (fun c hc hq => by rw [f3 c hc] at hq; cases hq)
      exact ⟨τ, ρ, t1, by rw [if_neg z]; exact r1, by omega, r2, r3, fun _ => hp, fun a k g1 g2 g3 => (r4 a k g2 g3).trans (t4 a k g1)⟩
theorem kp_sr2 (h : ∀ a k, ¬ sr a → a ≠ 46 → a ≠ 64 → a ≠ 65 → τ a k = σ a k) : Kp σ τ := by
  intro a k q
  by_cases z : sr a ∨ a = 46 ∨ a = 64 ∨ a = 65
  · unfold sr at z
    rcases (show a = 46 ∨ a = 64 ∨ a = 65 ∨ a = 47 ∨ a = 49 ∨ a = 50 ∨ a = 51 ∨ a = 52 ∨ a = 53 ∨ a = 54 ∨ a = 55 ∨ a = 57 ∨ a = 58 ∨ a = 59 ∨ a = 60 ∨ a = 61 ∨ a = 62 ∨ a = 63 by omega) with rfl | rfl | rfl | rfl | rfl | rfl | rfl | rfl | rfl | rfl | rfl | rfl | rfl | rfl | rfl | rfl | rfl | rfl <;> exact absurd (q.symm.trans (show lv _ _ = false from rfl)) (by decide)
  · exact h a k (fun g => z (Or.inl g)) (fun g => z (Or.inr (Or.inl g))) (fun g => z (Or.inr (Or.inr (Or.inl g)))) (fun g => z (Or.inr (Or.inr (Or.inr g))))
end
theorem sim_shortestWord {N : Nat} (hN : 10000 ≤ N) : Sim23 N RR := by
  intro σ a b p hR
  obtain ⟨A, h⟩ := id hR
  obtain ⟨a1, a2, a3⟩ := h.a
  obtain ⟨c1', c2', c3'⟩ := h.c
  by_cases hx : (∃ j, j < A 0 1 ∧ a = nI j) ∧ ∃ j, j < A 0 2 ∧ b = nI j
  · by_cases hp : (0 : Int32) ≤ p
    · obtain ⟨⟨i, hi, rfl⟩, c, hc, rfl⟩ := id hx
      obtain ⟨j, hj, rfl⟩ := nI_of (Int32.not_lt.mpr hp)
      obtain ⟨τ, ry, sl, st, t1, t2, t3, t4, t5⟩ := ask_c (N := N) h.tc h.tw hi hc
      have w := h.tw.2.2.2.2.2.2.1 i hi
      generalize hn : shL (fun n c => lok A ry sl st c n 0 (A 6 i)) (A 0 0) 4 1 = n
      obtain ⟨μ, ν, m1, m2, n4, m3, m4, m5, m6⟩ := found_c (N := N) (σ := τ) (by omega) (h.tc.eq (fun a k g1 g2 => t5 a k (by omega))) h.tw t3 (show A 6 i ≤ 12 by omega) t4 hn.symm
      have fr : ∀ a k, ¬ sr a → a ≠ 46 → a ≠ 64 → a ≠ 65 → ν a k = σ a k := fun a k g1 g2 g3 g4 => (m6 a k g1 g3 g4).trans (t5 a k g2)
      have e86 : ∀ k, ν 86 k = σ 86 k := fun k => fr _ _ (by unfold sr; omega) (by omega) (by omega) (by omega)
      obtain ⟨ρ, q1, q2, q3⟩ := shortest_m (N := N) (σ := ν) (Q := fun j => decide (j = c)) (v := nI c) hN (h.tm.eqL h.tw (fun k _ => e86 k)) h.tw hi (Or.inr ⟨c, hc, rfl, fun _ => rfl⟩) t2 ⟨c, hc, decide_eq_true rfl⟩ hn.symm
      have hc9 : fX9_shortestWord N σ (nI i) (nI c) (nI j) = some (if j < n then nI (dg (A 0 0) n (fst (fun c => lok A ry sl st c n 0 (A 6 i)) (A 0 0 ^ n)) j) else -1, ν) := by
        unfold fX9_shortestWord
        rw [areKnown_c a1 c1' (by omega) (by omega), xB_s, ite1, if_pos hx, if_pos hp, t1, xB_s, m1, xB_s, m2, xB_s]
        unfold fX4_wordAt
        rw [if_neg (nI_pos hj), m3]
        by_cases y : j < n
        · have e : ν (64 + 1) j = _ := m4 j y
          rw [if_neg (nI_ge y (by omega)), if_pos y, l6, if_neg (nI_ge (by omega) (by omega)), xin_t (by omega) (by decide), gd_t, nI_clamp (by omega), xB_s, e]
        · rw [if_pos (nI_le (by omega) hj), if_neg y, xB_s]
      have hm9 : fX10_shortestWord N ν (nI i) (nI c) (nI j) = some (if j < n then nI (dg (A 0 0) n (fst (fun c => lok A ry sl st c n 0 (A 6 i)) (A 0 0 ^ n)) j) else -1, ρ) := by
        unfold fX10_shortestWord
        rw [areBoth_m ((e86 _).trans a2) ((e86 _).trans c2') (by omega) (by omega), xB_s, ite1, if_pos hx, if_pos hp, q1, xB_s]
        by_cases z : n = 0
        · rw [if_pos z, if_pos (Int32.le_trans (by decide) hp), if_neg (by omega)]
        · rw [if_neg z]
          by_cases y : j < n
          · rw [if_neg (nI_ge y (by omega)), if_pos y, xin_t (by omega) (by decide), gd_t, nI_clamp (by omega), (q2 z).2 (m5 z) j y]
          · rw [if_pos (nI_le (by omega) hj), if_neg y]
      exact sim_kp (f := fun σ => fX9_shortestWord N σ (nI i) (nI c) (nI j)) (g := fun σ => fX10_shortestWord N σ (nI i) (nI c) (nI j)) hR hc9 hm9 (kp_sr2 fr) (kp_s4 q3)
    · refine sim_mk (f := fun σ => fX9_shortestWord N σ a b p) (g := fun σ => fX10_shortestWord N σ a b p) (-3) σ σ ?_ ?_ hR
      · show fX9_shortestWord N σ a b p = _
        unfold fX9_shortestWord
        rw [areKnown_c a1 c1' (by omega) (by omega), xB_s, ite1, if_pos hx, if_neg hp]
      · show fX10_shortestWord N σ a b p = _
        unfold fX10_shortestWord
        rw [areBoth_m a2 c2' (by omega) (by omega), xB_s, ite1, if_pos hx, if_neg hp]
  · refine sim_mk (f := fun σ => fX9_shortestWord N σ a b p) (g := fun σ => fX10_shortestWord N σ a b p) (-2) σ σ ?_ ?_ hR
    · show fX9_shortestWord N σ a b p = _
      unfold fX9_shortestWord
      rw [areKnown_c a1 c1' (by omega) (by omega), xB_s, ite1, if_neg hx]
    · show fX10_shortestWord N σ a b p = _
      unfold fX10_shortestWord
      rw [areBoth_m a2 c2' (by omega) (by omega), xB_s, ite1, if_neg hx]
