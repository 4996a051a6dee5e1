/-! THE START: nothing told -/
theorem start_rr {N : Nat} (hN : 1000 ≤ N) {σ : XS} (h0 : ∀ c k, c ≠ 10 → σ c k = 0) (h1 : ∀ k, k < 6 → σ 10 k = 3) : ∃ τ, fX10_empties N σ = some (0, τ) ∧ RR τ := by
  have key : ∀ (d i m : Nat) (τ : XS), i + d = 98 → d < m → (∀ a k, a ≠ 86 → τ a k = σ a k) → (∀ j, j < i → τ 86 j = if 73 ≤ j ∧ j ≤ 78 then nI 3 else nI 0) → ∃ ρ, fX10_empties_L2 N (fun m10 => some (0, m10)) m (nI i) τ = some (0, ρ) ∧ (∀ a k, a ≠ 86 → ρ a k = σ a k) ∧ ∀ j, j < 98 → ρ 86 j = if 73 ≤ j ∧ j ≤ 78 then nI 3 else nI 0 := by
    intro d
    induction d with
    | zero =>
      intro i m τ hi hm f1 f2
      obtain ⟨m, rfl⟩ : ∃ q, m = q + 1 := ⟨m - 1, by omega⟩
      rw [fX10_empties_L2, show (98 : Int32) = nI 98 from rfl, if_pos (nI_le (by omega) (by omega))]
      exact ⟨τ, rfl, f1, fun j hj => f2 j (by omega)⟩
    | succ d ih =>
      intro i m τ hi hm f1 f2
      obtain ⟨m, rfl⟩ : ∃ q, m = q + 1 := ⟨m - 1, by omega⟩
      have hin : fX10_in N τ (nI i).toInt64 73 78 = some (if nI 73 ≤ nI i ∧ nI i ≤ nI 78 then 1 else 0, τ) := in_spec2 (nI 73) (nI 78) rfl rfl
      rw [fX10_empties_L2, show (98 : Int32) = nI 98 from rfl, if_neg (nI_ge (by omega) (by omega)), hin, xB_s, ite1, xLet_e, xLet_e, xin_t (by omega) (by decide), gd_t, gd_t, nI_clamp (by omega), nI_1]
      have go : ∀ v : Int32, v = (if 73 ≤ i ∧ i ≤ 78 then nI 3 else nI 0) → ∃ ρ, fX10_empties_L2 N (fun m10 => some (0, m10)) m (nI (i + 1)) (xUp τ 86 i v) = some (0, ρ) ∧ (∀ a k, a ≠ 86 → ρ a k = σ a k) ∧ ∀ j, j < 98 → ρ 86 j = if 73 ≤ j ∧ j ≤ 78 then nI 3 else nI 0 := by
        intro v hv
        refine ih (i + 1) m _ (by omega) (by omega) (fun a k ha => by rw [up_c (by omega)]; exact f1 a k ha) (fun j hj => ?_)
        by_cases e : j = i
        · subst e; rw [up_s, hv]
        · rw [up_c (by omega)]; exact f2 j (by omega)
      by_cases q : 73 ≤ i ∧ i ≤ 78
      · rw [if_pos ⟨nI_le q.1 (by omega), nI_le q.2 (by omega)⟩]
        exact go _ (by rw [if_pos q]; rfl)
      · rw [if_neg (fun g => q ⟨(nI_leI (by omega) (by omega)).mp g.1, (nI_leI (by omega) (by omega)).mp g.2⟩)]
        exact go _ (by rw [if_neg q]; rfl)
  obtain ⟨ρ, r1, r2, r3⟩ := key 98 0 N σ (by omega) (by omega) (fun _ _ _ => rfl) (fun j hj => by omega)
  refine ⟨ρ, r1, fun i _ => if i = 9 then 3 else 0, ?_⟩
  have z : ∀ a k, a ≠ 86 → a ≠ 10 → ρ a k = nI 0 := fun a k g1 g2 => (r2 a k g1).trans (h0 a k g2)
  have z86 : ∀ j, j < 73 → ρ 86 j = nI 0 := fun j hj => by rw [r3 j (by omega), if_neg (by omega)]
  refine ⟨⟨by decide, by decide, by decide, by decide, fun w hw => absurd hw (Nat.not_lt_zero _), fun _ _ => Nat.zero_le _, fun _ hw => absurd hw (Nat.not_lt_zero _), fun _ hw => absurd hw (Nat.not_lt_zero _), fun _ _ => (show 3 ≤ 9 by omega)⟩,
    ⟨z _ _ (by omega) (by omega), z _ _ (by omega) (by omega), z _ _ (by omega) (by omega), z _ _ (by omega) (by omega), fun w hw => absurd hw (Nat.not_lt_zero _), fun p hp => z _ _ (by omega) (by omega), fun a hw => absurd hw (Nat.not_lt_zero _), fun c hw => absurd hw (Nat.not_lt_zero _), fun r hr => (r2 _ _ (by omega)).trans (h1 r hr)⟩,
    ⟨⟨0, by omega, z _ _ (by omega) (by omega), z86 _ (by omega)⟩, (z _ _ (by omega) (by omega)).trans (z86 _ (by omega)).symm, fun a ha => ⟨0, by omega, z _ _ (by omega) (by omega), z86 _ (by omega)⟩, fun r hr => ⟨0, by omega, z _ _ (by omega) (by omega), z86 _ (by omega)⟩,
      z86 _ (by omega), z86 _ (by omega), z86 _ (by omega), z86 _ (by omega), fun w hw => absurd hw (Nat.not_lt_zero _), fun p hp => z86 _ (by omega), fun a hw => absurd hw (Nat.not_lt_zero _), fun c hw => absurd hw (Nat.not_lt_zero _), fun r hr => by rw [r3 _ (by omega), if_pos (by omega)]; rfl⟩,
    ⟨⟨0, 0, by omega, by omega, z _ _ (by omega) (by omega), z _ _ (by omega) (by omega), z _ _ (by omega) (by omega), fun i hi => by omega⟩, fun k hk => ⟨0, by omega, z _ _ (by omega) (by omega), z _ _ (by omega) (by omega), fun h => by omega⟩⟩,
    ⟨0, fun _ => 0, by omega, z _ _ (by omega) (by omega), z _ _ (by omega) (by omega), fun i hi => by omega⟩,
    ⟨0, fun _ => 0, by omega, z _ _ (by omega) (by omega), z _ _ (by omega) (by omega), fun i hi => by omega⟩,
    ⟨z _ _ (by omega) (by omega), z _ _ (by omega) (by omega)⟩, 0, 0, fun _ => 0, fun _ => 0, by omega, by omega, z _ _ (by omega) (by omega), z _ _ (by omega) (by omega), z _ _ (by omega) (by omega), z _ _ (by omega) (by omega), fun i hi => by omega⟩
