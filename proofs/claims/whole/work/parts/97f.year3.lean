section
variable {N : Nat} {A : Nat → Nat → Nat} {σ τ : XS}
theorem year_c (hN : 100 ≤ N) (h : RA A σ) (hc : 0 < A 0 2) (hT : ∀ a k, ¬ sy a → τ a k = σ a k) {s : UT} (hu : UB A s.1) (h84 : ∀ r, r < 6 → τ 84 r = nI (s.1 r)) :
    ∃ ρ, fX9_year_L45 N (fun x14 m15 => some (x14, m15)) N (nI s.2) 0 τ = some (nI (yfold A (ftO σ) (A 0 1) 0 s).2, ρ) ∧ ∀ a k, ¬ sy a → ρ a k = σ a k := by
  have hW := h.tw
  have a6 := hW.2.1
  have key : ∀ (d i q : Nat) (τ : XS) (s : UT), i + d = A 0 1 → d < q → (∀ a k, ¬ sy a → τ a k = σ a k) → UB A s.1 → (∀ r, r < 6 → τ 84 r = nI (s.1 r)) → ∃ ρ, fX9_year_L45 N (fun x14 m15 => some (x14, m15)) q (nI s.2) (nI i) τ = some (nI (yfold A (ftO σ) d i s).2, ρ) ∧ ∀ a k, ¬ sy a → ρ a k = σ a k := by
    intro d
    induction d with
    | zero =>
      intro i q τ s hi hq f1 f2 f3
      obtain ⟨q, rfl⟩ : ∃ r, q = r + 1 := ⟨q - 1, by omega⟩
      rw [fX9_year_L45, f1 1 10 (by unfold sy sr; omega), h.a.1, if_pos (nI_le (by omega) (by omega))]
      exact ⟨τ, rfl, f1⟩
    | succ d ih =>
      intro i q τ s hi hq f1 f2 f3
      obtain ⟨q, rfl⟩ : ∃ r, q = r + 1 := ⟨q - 1, by omega⟩
      obtain ⟨t1, t2, t3⟩ := h.ft (show i < 6 by omega)
      have yun : yfold A (ftO σ) (d + 1) i s = yfold A (ftO σ) d (i + 1) (if ftO σ i = 0 then ystp A i s else s) := rfl
      rw [fX9_year_L45, f1 1 10 (by unfold sy sr; omega), h.a.1, if_neg (nI_ge (by omega) (by omega)), fate_n (by omega), xB_s, f1 30 _ (by unfold sy sr; omega), t2, isz (by omega), yun]
      by_cases f0 : ftO σ i = 0
      · obtain ⟨v, ρ, r1, r2, r3, r4⟩ := paid_c (N := N) hN (h.tc.eq (fun a k g1 g2 => f1 a k (by unfold sy sr; omega))) hW (show i < A 0 1 by omega) hc f2 f3
        rw [if_pos f0, if_pos f0, r1, xB_s, nI_add, nI_1, ← r2]
        exact ih (i + 1) q ρ (ystp A i s) (by omega) (by omega) (fun a k g => (r4 a k g).trans (f1 a k g)) f2.st r3
      · rw [if_neg f0, if_neg f0, nI_1]
        exact ih (i + 1) q τ s (by omega) (by omega) f1 f2 f3
  exact key (A 0 1) 0 N τ s (by omega) (by omega) hT hu h84
theorem uses84_c (hN : 10 ≤ N) (h : RA A σ) {k : XS → Option XO} : ∃ τ, fX9_year_L15 N k N 0 σ = k τ ∧ (∀ r, r < 6 → τ 84 r = nI (usO σ r)) ∧ ∀ a k, a ≠ 84 → τ a k = σ a k := by
  have key : ∀ (d i q : Nat) (τ : XS), i + d = 6 → d < q → (∀ a k, a ≠ 84 → τ a k = σ a k) → (∀ r, r < i → τ 84 r = nI (usO σ r)) → ∃ ρ, fX9_year_L15 N k q (nI i) τ = k ρ ∧ (∀ r, r < 6 → ρ 84 r = nI (usO σ r)) ∧ ∀ a k, a ≠ 84 → ρ a k = σ a k := by
    intro d
    induction d with
    | zero =>
      intro i q τ hi hq f1 f2
      obtain ⟨q, rfl⟩ : ∃ r, q = r + 1 := ⟨q - 1, by omega⟩
      rw [fX9_year_L15, l6, if_pos (nI_le (by omega) (by omega))]
      exact ⟨τ, rfl, fun r hr => f2 r (by omega), f1⟩
    | succ d ih =>
      intro i q τ hi hq f1 f2
      obtain ⟨q, rfl⟩ : ∃ r, q = r + 1 := ⟨q - 1, by omega⟩
      rw [fX9_year_L15, l6, if_neg (nI_ge (by omega) (by omega)), uses_n (by omega), xB_s, xLet_e, xin_t (by omega) (by decide), gd_t, nI_clamp (by omega), f1 30 _ (by omega), (h.us (show i < 6 by omega)).2.2.1, nI_1]
      refine ih (i + 1) q _ (by omega) (by omega) (fun a k g => by rw [up_c (by omega)]; exact f1 a k g) (fun r hr => ?_)
      by_cases e : r = i
      · subst e; rw [up_s]
      · rw [up_c (by omega)]; exact f2 r (by omega)
  exact key 6 0 N σ (by omega) (by omega) (fun _ _ _ => rfl) (fun r hr => by omega)
theorem uses96_m (hN : 10 ≤ N) {u : Nat → Nat} (h : ∀ r, r < 6 → σ 86 (67 + r) = nI (u r)) {k : XS → Option XO} : ∃ τ, fX10_year_L14 N k N 0 σ = k τ ∧ (∀ r, r < 6 → τ 96 r = nI (u r)) ∧ ∀ a k, a ≠ 96 → τ a k = σ a k := by
  have key : ∀ (d i q : Nat) (τ : XS), i + d = 6 → d < q → (∀ a k, a ≠ 96 → τ a k = σ a k) → (∀ r, r < i → τ 96 r = nI (u r)) → ∃ ρ, fX10_year_L14 N k q (nI i) τ = k ρ ∧ (∀ r, r < 6 → ρ 96 r = nI (u r)) ∧ ∀ a k, a ≠ 96 → ρ a k = σ a k := by
    intro d
    induction d with
    | zero =>
      intro i q τ hi hq f1 f2
      obtain ⟨q, rfl⟩ : ∃ r, q = r + 1 := ⟨q - 1, by omega⟩
      rw [fX10_year_L14, l6, if_pos (nI_le (by omega) (by omega))]
      exact ⟨τ, rfl, fun r hr => f2 r (by omega), f1⟩
    | succ d ih =>
      intro i q τ hi hq f1 f2
      obtain ⟨q, rfl⟩ : ∃ r, q = r + 1 := ⟨q - 1, by omega⟩
      rw [fX10_year_L14, l6, if_neg (nI_ge (by omega) (by omega)), show (67 : Int32) = nI 67 from rfl, nI_add, xin_t (by omega) (by decide), gd_t, xLet_e, xin_t (by omega) (by decide), gd_t, nI_clamp (by omega), nI_clamp (by omega), f1 86 _ (by omega), h i (by omega), nI_1]
      refine ih (i + 1) q _ (by omega) (by omega) (fun a k g => by rw [up_c (by omega)]; exact f1 a k g) (fun r hr => ?_)
      by_cases e : r = i
      · subst e; rw [up_s]
      · rw [up_c (by omega)]; exact f2 r (by omega)
  exact key 6 0 N σ (by omega) (by omega) (fun _ _ _ => rfl) (fun r hr => by omega)
end
theorem sim_year {N : Nat} (hN : 10000 ≤ N) : Sim30 N RR := by
  intro σ hR
  obtain ⟨A, h⟩ := id hR
  obtain ⟨c1', c2', c3'⟩ := h.c
  by_cases z : A 0 2 = 0
  · refine sim_mk (f := fun σ => fX9_year N σ) (g := fun σ => fX10_year N σ) (-4) σ σ ?_ ?_ hR
    · show fX9_year N σ = _
      unfold fX9_year
      rw [c1', z, if_pos (by rfl)]
    · show fX10_year N σ = _
      unfold fX10_year
      rw [xin298, gd_t, c2, c2', z, if_pos (by rfl)]
  · have hu : UB A (usO σ) := fun r hr => (h.us hr).1
    obtain ⟨τ, t1, t2, t3⟩ := uses84_c (N := N) (k := fun m7 => fX9_year_L45 N (fun x14 m15 => some (x14, m15)) N 0 0 m7) (by omega) h
    obtain ⟨μ, m1, m2⟩ := year_c (N := N) (τ := τ) (s := (usO σ, 0)) (by omega) h (by omega) (fun a k g => t3 a k (fun e => g (by unfold sy; omega))) hu t2
    have e86 : ∀ k, μ 86 k = σ 86 k := fun k => m2 _ _ (by unfold sy sr; omega)
    obtain ⟨ν, n1, n2, n3⟩ := uses96_m (N := N) (σ := μ) (u := usO σ) (k := fun m4 => fX10_year_L45 N (fun x20 m21 => some (x20, m21)) N 0 0 m4) (by omega) (fun r hr => (e86 _).trans (h.us hr).2.2.2.1)
    have e86' : ∀ k, ν 86 k = σ 86 k := fun k => (n3 _ _ (by omega)).trans (e86 k)
    obtain ⟨ρ, r1, r2⟩ := year_m (σ := ν) (F := ftO σ) (s := (usO σ, 0)) hN (h.tm.eqL h.tw (fun k _ => e86' k)) h.tw (by omega) (fun a ha => ⟨(h.ft ha).1, (e86' _).trans (h.ft ha).2.2⟩) hu n2
    have hc9 : fX9_year N σ = some (nI (yfold A (ftO σ) (A 0 1) 0 (usO σ, 0)).2, μ) := by
      unfold fX9_year
      rw [c1', isz (by omega), if_neg z, t1]
      exact m1
    have hm9 : fX10_year N μ = some (nI (yfold A (ftO σ) (A 0 1) 0 (usO σ, 0)).2, ρ) := by
      unfold fX10_year
      rw [xin298, gd_t, c2, e86, c2', isz (by omega), if_neg z, n1]
      exact r1
    refine sim_kp (f := fun σ => fX9_year N σ) (g := fun σ => fX10_year N σ) hR hc9 hm9 (fun a k q => m2 a k (fun g => ?_)) (fun a k q => ?_)
    · unfold sy sr at g
      rcases (show a = 84 ∨ a = 46 ∨ a = 64 ∨ a = 65 ∨ a = 47 ∨ a = 49 ∨ a = 50 ∨ a = 51 ∨ a = 52 ∨ a = 53 ∨ a = 54 ∨ a = 55 ∨ a = 57 ∨ a = 58 ∨ a = 59 ∨ a = 60 ∨ a = 61 ∨ a = 62 ∨ a = 63 by omega) with rfl | rfl | rfl | rfl | rfl | rfl | rfl | rfl | rfl | rfl | rfl | rfl | rfl | rfl | rfl | rfl | rfl | rfl | rfl <;> exact absurd (q.symm.trans (show lv _ _ = false from rfl)) (by decide)
    · have g : ¬ s6 a k := by
        intro g
        rcases g with (rfl | rfl | ⟨rfl, rfl⟩) | rfl <;> exact absurd (q.symm.trans (show lv _ _ = false from rfl)) (by decide)
      rw [r2 a k g]
      exact n3 a k (fun e => g (Or.inr e))
