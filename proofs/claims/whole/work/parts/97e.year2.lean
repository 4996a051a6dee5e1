section
variable {N : Nat} {A : Nat → Nat → Nat} {σ τ ρ : XS}
theorem worn96_m (hM : TM A (ρ 86)) (hW : TW A) {w n : Nat} (hw : w < A 0 0) (hu : ρ 96 (A 4 w) = nI n) (hn : n ≤ 9) : fX10_isWorn N ρ (nI w) 96 0 = some (b2i (decide (A 1 w ≠ 2) && decide (A 9 (A 4 w) ≤ n)), ρ) := by
  obtain ⟨q1, q2, q3, q4, q5, q6⟩ := hW.2.2.2.2.1 w hw
  have wb := hW.1
  obtain ⟨-, -, -, e4⟩ := hM.2.2.2.2.1 w hw
  have e9 := hM.2.2.2.2.2.2.2.2 (A 4 w) (by omega)
  have b9 := hW.2.2.2.2.2.2.2.2 (A 4 w) (by omega)
  have e : ((6 : Int32) + 4 * nI w) + 3 = nI (6 + 4 * w + 3) := by rw [l6, l4, l3, pk_mul, nI_add, nI_add]
  unfold fX10_isWorn
  rw [e, xin_t (by omega) (by decide), gd_t, nI_clamp (by omega), e4, xLetI_e, kindOf_m hM hW hw, xB_s]
  by_cases z : A 1 w = 2
  · rw [z, if_pos (by rfl)]; rfl
  · rw [if_neg (by rw [l2, nI_eq (by omega) (by omega)]; exact z), Int32.zero_add, show (73 : Int32) = nI 73 from rfl, nI_add, xin_t (n := xlen 96) (by show _ < 6; omega) (by decide), gd_t, xin_t (by omega) (by decide), gd_t, nI_clamp (by omega), nI_clamp (by omega), hu, e9, decide_eq_true z, Bool.true_and]
    by_cases y : n < A 9 (A 4 w)
    · rw [if_pos (nI_lt y (by omega)), decide_eq_false (by omega)]; rfl
    · rw [if_neg (nI_nlt (by omega) (by omega)), decide_eq_true (by omega)]; rfl
def s6 (a k : Nat) : Prop := s4 a k ∨ a = 96
theorem year_m (hN : 10000 ≤ N) (hM : TM A (σ 86)) (hW : TW A) (hc : 0 < A 0 2) {F : Nat → Nat} (hF : ∀ a, a < 6 → F a ≤ 3 ∧ σ 86 (48 + 3 * a) = nI (F a)) {s : UT} (hu : UB A s.1) (h96 : ∀ r, r < 6 → σ 96 r = nI (s.1 r)) :
    ∃ ρ, fX10_year_L45 N (fun x20 m21 => some (x20, m21)) N (nI s.2) 0 σ = some (nI (yfold A F (A 0 1) 0 s).2, ρ) ∧ ∀ a k, ¬ s6 a k → ρ a k = σ a k := by
  have a6 := hW.2.1
  have w9 := hW.1
  have key : ∀ (d i q : Nat) (τ : XS) (s : UT), i + d = A 0 1 → d < q → (∀ a k, ¬ s6 a k → τ a k = σ a k) → UB A s.1 → (∀ r, r < 6 → τ 96 r = nI (s.1 r)) → ∃ ρ, fX10_year_L45 N (fun x20 m21 => some (x20, m21)) q (nI s.2) (nI i) τ = some (nI (yfold A F d i s).2, ρ) ∧ ∀ a k, ¬ s6 a k → ρ a k = σ a k := by
    intro d
    induction d with
    | zero =>
      intro i q τ s hi hq f1 f2 f3
      obtain ⟨q, rfl⟩ : ∃ r, q = r + 1 := ⟨q - 1, by omega⟩
      rw [fX10_year_L45, xin198, gd_t, c1, f1 86 1 (by unfold s6 s4; omega), hM.2.1, if_pos (nI_le (by omega) (by omega))]
      exact ⟨τ, rfl, f1⟩
    | succ d ih =>
      intro i q τ s hi hq f1 f2 f3
      obtain ⟨q, rfl⟩ : ∃ r, q = r + 1 := ⟨q - 1, by omega⟩
      obtain ⟨F1, F2⟩ := hF i (by omega)
      have w := hW.2.2.2.2.2.2.1 i (by omega)
      have yun : yfold A F (d + 1) i s = yfold A F d (i + 1) (if F i = 0 then ystp A i s else s) := rfl
      rw [fX10_year_L45, xin198, gd_t, c1, f1 86 1 (by unfold s6 s4; omega), hM.2.1, if_neg (nI_ge (by omega) (by omega)), z48, xin_t (by omega) (by decide), gd_t, nI_clamp (by omega), f1 86 _ (by unfold s6 s4; omega), F2, isz (by omega), yun]
      by_cases f0 : F i = 0
      · rw [if_pos f0, if_pos f0]
        obtain ⟨μ, q1, q2, q3⟩ := shortest_m (N := N) (σ := τ) (Q := fun j => decide (j = 0)) (v := 0) hN (hM.eqL hW (fun k _ => f1 _ _ (by unfold s6 s4; omega))) hW (show i < A 0 1 by omega) (Or.inr ⟨0, hc, rfl, fun _ => rfl⟩) (asks_one hc) ⟨0, hc, decide_eq_true rfl⟩ (n := yn A i) rfl
        have n4 : yn A i ≤ 4 := by
          rcases shL_spec (G := yG A i) (W := A 0 0) 4 1 (by omega) with h | ⟨g1, g2, g3⟩
          · have h' : yn A i = 0 := h
            omega
          · have g2' : yn A i < 1 + 4 := g2
            omega
        have fr : ∀ a k, ¬ s6 a k → μ a k = σ a k := fun a k g => (q3 a k (fun z => g (Or.inl z))).trans (f1 a k g)
        have m96 : ∀ r, r < 6 → μ 96 r = nI (s.1 r) := fun r hr => (q3 _ _ (by unfold s4; omega)).trans (f3 r hr)
        have hM2 : TM A (μ 86) := hM.eqL hW (fun k _ => fr _ _ (by unfold s6 s4; omega))
        have e46 := (hM2.2.2.2.2.2.2.1 i (by omega)).1
        have away : ystp A i s = (s.1, s.2 + 3 * A 6 i) → ∀ v3 : Int32, ∃ ρ, fX10_year_J107 N (nI s.2) (nI i) v3 (fX10_year_L45 N (fun x20 m21 => some (x20, m21)) q) μ = some (nI (yfold A F d (i + 1) (ystp A i s)).2, ρ) ∧ ∀ a k, ¬ s6 a k → ρ a k = σ a k := by
          intro h v3
          rw [h]
          unfold fX10_year_J107 fX10_year_J108
          rw [if_pos rfl, z46, xin_t (by omega) (by decide), gd_t, nI_clamp (by omega), e46]
          unfold fX10_year_J143
          rw [if_pos rfl, l3, pk_mul, nI_add, nI_1]
          exact ih (i + 1) q μ (s.1, s.2 + 3 * A 6 i) (by omega) (by omega) fr f2 m96
        rw [q1, xB_s]
        by_cases z : yn A i = 0
        · rw [if_pos z, if_pos rfl]
          exact away (by unfold ystp; rw [if_pos z]) _
        · rw [if_neg z, if_neg (ne1 (by omega))]
          have hw0 : 0 < A 0 0 := by
            rcases Nat.eq_zero_or_pos (A 0 0) with e | e
            · rcases shL_spec (G := yG A i) (W := A 0 0) 4 1 (by omega) with h | ⟨g1, g2, g3⟩
              · exact absurd h z
              · have g1' : 1 ≤ yn A i := g1
                have g3' : Fc (yG A i (yn A i)) (A 0 0 ^ yn A i) ≠ 0 := g3
                rw [e, Nat.zero_pow (by omega)] at g3'
                exact absurd rfl g3'
            · exact e
          have hFc : 0 < Fc (yG A i (yn A i)) (A 0 0 ^ yn A i) := by
            rcases shL_spec (G := yG A i) (W := A 0 0) 4 1 (by omega) with h | ⟨g1, g2, g3⟩
            · exact absurd h z
            · exact Nat.pos_of_ne_zero g3
          have hwl : yw A i < A 0 0 := dg_lt hw0
          have kb := (hW.2.2.2.2.1 _ hwl).1
          obtain ⟨-, -, -, -, -, rb⟩ := hW.2.2.2.2.1 _ hwl
          have b9 := hW.2.2.2.2.2.2.2.2 (A 4 (yw A i)) (by omega)
          have ub := f2 (A 4 (yw A i)) (by omega)
          have e95 : μ 95 (yn A i - 1) = nI (yw A i) := (q2 z).2 hFc (yn A i - 1) (by omega)
          have e3 : nI (yn A i) - 1 = nI (yn A i - 1) := by rw [l1, pk_sub (by omega)]
          rw [e3, xin_t (by omega) (by decide), gd_t, nI_clamp (by omega), e95, worn96_m hM2 hW hwl (m96 _ (by omega)) (by omega), xB_s, b2i0]
          have paid : ∀ (x : Nat) (u' : Nat → Nat), x = (if A 1 (yw A i) = 2 then 0 else 1) → ystp A i s = (u', s.2 + A 6 i) → (∀ r, r < 6 → u' r = if r = A 4 (yw A i) then s.1 r + x else s.1 r) → ∃ ρ, fX10_year_J108 N (nI s.2) (nI i) (nI (yn A i)) 1 (fX10_year_L45 N (fun x20 m21 => some (x20, m21)) q) μ = some (nI (yfold A F d (i + 1) (ystp A i s)).2, ρ) ∧ ∀ a k, ¬ s6 a k → ρ a k = σ a k := by
            intro x u' hx hy hu'
            have hst := UB.st (i := i) f2
            rw [hy] at hst ⊢
            have e : ((6 : Int32) + 4 * nI (yw A i)) + 3 = nI (6 + 4 * yw A i + 3) := by rw [l6, l4, l3, pk_mul, nI_add, nI_add]
            have er := (hM2.2.2.2.2.1 _ hwl).2.2.2
            unfold fX10_year_J108
            rw [if_neg (by decide), z46, xin_t (by omega) (by decide), gd_t, nI_clamp (by omega), e46]
            unfold fX10_year_J143
            rw [if_neg (by decide), e3, xin_t (by omega) (by decide), gd_t, nI_clamp (by omega), e95, e, xin_t (by omega) (by decide), gd_t, nI_clamp (by omega), er, xin_t (by omega) (by decide), gd_t, gd_t, kindOf_m hM2 hW hwl, xB_s, xLet_e, xLet_e, gd_t, gd_t, nI_clamp (by omega), m96 _ (by omega), nI_add, nI_1, nI_1, Int32.add_zero]
            have go : ∃ ρ, fX10_year_L45 N (fun x20 m21 => some (x20, m21)) q (nI (s.2 + A 6 i)) (nI (i + 1)) (xUp μ 96 (A 4 (yw A i)) (nI (s.1 (A 4 (yw A i)) + x))) = some (nI (yfold A F d (i + 1) (u', s.2 + A 6 i)).2, ρ) ∧ ∀ a k, ¬ s6 a k → ρ a k = σ a k := by
              refine ih (i + 1) q _ (u', s.2 + A 6 i) (by omega) (by omega) (fun a k g => by rw [up_c (by unfold s6 at g; omega)]; exact fr a k g) hst (fun r hr => ?_)
              show _ = nI (u' r)
              rw [hu' r hr]
              by_cases y : r = A 4 (yw A i)
              · rw [if_pos y, y, up_s]
              · rw [if_neg y, up_c (by omega)]; exact m96 r hr
            by_cases y : A 1 (yw A i) = 2
            · rw [if_pos y] at hx
              subst hx
              rw [y, if_pos (by rfl)]
              exact go
            · rw [if_neg y] at hx
              subst hx
              rw [if_neg (by rw [l2, nI_eq (by omega) (by omega)]; exact y)]
              exact go
          by_cases y : A 1 (yw A i) = 2
          · rw [if_neg (by simp [y])]
            refine paid 0 s.1 (by rw [if_pos y]) (by unfold ystp; rw [if_neg z, if_pos y]) (fun r _ => ?_)
            rw [Nat.add_zero, ite_self]
          · by_cases x : s.1 (A 4 (yw A i)) < A 9 (A 4 (yw A i))
            · rw [if_neg (by simp [x])]
              exact paid 1 _ (by rw [if_neg y]) (by unfold ystp; rw [if_neg z, if_neg y, if_pos x]) (fun r _ => rfl)
            · rw [if_pos (by simp [y]; omega)]
              exact away (by unfold ystp; rw [if_neg z, if_neg y, if_neg x]) _
      · rw [if_neg f0, if_neg f0, nI_1]
        exact ih (i + 1) q τ s (by omega) (by omega) f1 f2 f3
  exact key (A 0 1) 0 N σ s (by omega) (by omega) (fun _ _ _ => rfl) hu h96
end
