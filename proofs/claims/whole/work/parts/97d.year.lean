/-! YEAR -/
def yry (A : Nat → Nat → Nat) (i : Nat) : Nat := if A 8 0 = 2 then 0 else A 5 (A 7 i) + 1
def ysl (A : Nat → Nat → Nat) : Bool := false || decide (A 8 0 = 1)
def yst (A : Nat → Nat → Nat) : Bool := false || decide (A 8 0 ≠ 1)
def yG (A : Nat → Nat → Nat) (i n c : Nat) : Bool := lok A (yry A i) (ysl A) (yst A) c n 0 (A 6 i)
def yn (A : Nat → Nat → Nat) (i : Nat) : Nat := shL (yG A i) (A 0 0) 4 1
def yw (A : Nat → Nat → Nat) (i : Nat) : Nat := dg (A 0 0) (yn A i) (fst (yG A i (yn A i)) (A 0 0 ^ yn A i)) (yn A i - 1)
abbrev UT := (Nat → Nat) × Nat
/-- a ware's settling in a year: uses so far, paid so far -/
def ystp (A : Nat → Nat → Nat) (i : Nat) (s : UT) : UT :=
  if yn A i = 0 then (s.1, s.2 + 3 * A 6 i) else if A 1 (yw A i) = 2 then (s.1, s.2 + A 6 i) else if s.1 (A 4 (yw A i)) < A 9 (A 4 (yw A i)) then (fun r => if r = A 4 (yw A i) then s.1 r + 1 else s.1 r, s.2 + A 6 i) else (s.1, s.2 + 3 * A 6 i)
def yfold (A : Nat → Nat → Nat) (F : Nat → Nat) : Nat → Nat → UT → UT
  | 0, _, s => s
  | d + 1, i, s => yfold A F d (i + 1) (if F i = 0 then ystp A i s else s)
section
variable {N : Nat} {A : Nat → Nat → Nat} {σ τ : XS}
theorem ask0_c (hC : TC A σ) (hW : TW A) {a : Nat} (ha : a < A 0 1) (hc : 0 < A 0 2) : ∃ τ, fX1_ask N σ (nI a) 0 = some (0, τ) ∧ DK (yry A a) (ysl A) (yst A) τ ∧ τ 46 1 = nI (A 6 a) ∧ ∀ a k, a ≠ 46 → τ a k = σ a k := by
  obtain ⟨τ, t1, t2, t3, t4⟩ := dbegin_c (N := N) hC hW ha
  obtain ⟨ρ, r1, r2, r3, r4⟩ := hear_c (N := N) (hC.eq (fun a k g1 g2 => t4 a k (by omega))) hW ha hc t2
  refine ⟨ρ, ?_, r2, r3.trans t3, fun a k g => (r4 a k g).trans (t4 a k g)⟩
  have r1' : fX1_hear N τ (nI a) 0 = some (0, ρ) := r1
  unfold fX1_ask
  rw [t1, xB_s, r1', xB_s]
def UB (A : Nat → Nat → Nat) (u : Nat → Nat) : Prop := ∀ r, r < 6 → u r ≤ A 9 r
theorem UB.st {i : Nat} {s : UT} (h : UB A s.1) : UB A (ystp A i s).1 := by
  unfold ystp
  split
  · exact h
  · split
    · exact h
    · split
      · intro r hr
        show (if r = _ then _ else _) ≤ _
        by_cases e : r = A 4 (yw A i)
        · rw [if_pos e]; subst e; omega
        · rw [if_neg e]; exact h r hr
      · exact h
def sy (a : Nat) : Prop := sr a ∨ a = 46 ∨ a = 64 ∨ a = 65 ∨ a = 84
theorem paid_c (hN : 100 ≤ N) (hC : TC A τ) (hW : TW A) {i : Nat} (hi : i < A 0 1) (hc : 0 < A 0 2) {s : UT} (hu : UB A s.1) (h84 : ∀ r, r < 6 → τ 84 r = nI (s.1 r)) :
    ∃ v ρ, fX9_paidInYear N τ (nI i) = some (nI v, ρ) ∧ (ystp A i s).2 = s.2 + v ∧ (∀ r, r < 6 → ρ 84 r = nI ((ystp A i s).1 r)) ∧ ∀ a k, ¬ sy a → ρ a k = τ a k := by
  have a6 := hW.2.1
  have w := hW.2.2.2.2.2.2.1 i hi
  have w9 := hW.1
  obtain ⟨τ1, t1, t3, t4, t5⟩ := ask0_c (N := N) hC hW hi hc
  obtain ⟨μ, ν, m1, m2, n4, m3, m4, m5, m6⟩ := found_c (N := N) (σ := τ1) (n := yn A i) hN (hC.eq (fun a k g1 g2 => t5 a k (by omega))) hW t3 (show A 6 i ≤ 12 by omega) t4 rfl
  have fr : ∀ a k, ¬ sy a → ν a k = τ a k := fun a k g => (m6 a k (fun z => g (Or.inl z)) (fun z => g (by unfold sy; omega)) (fun z => g (by unfold sy; omega))).trans (t5 a k (fun z => g (by unfold sy; omega)))
  have f84 : ∀ r, r < 6 → ν 84 r = nI (s.1 r) := fun r hr => ((m6 _ _ (by unfold sr; omega) (by omega) (by omega)).trans (t5 _ _ (by omega))).trans (h84 r hr)
  have hC2 : TC A ν := hC.eq (fun a k g1 g2 => fr a k (by unfold sy sr; omega))
  have hp : fX9_paidInYear N τ (nI i) = if yn A i = 0 then some (3 * nI (A 6 i), ν) else xB (fX4_lastWord N ν 64) (fun y13 m14 => xB (fX8_rhymeWornBy N m14 y13) (fun y16 m17 => xB (fX9_at N m17 84 y16) (fun y19 m20 => xB (fX8_isWorn N m20 y16 y19) (fun y22 m23 => if y22 = 0 then if y16 < 0 then some (nI (A 6 i), m23) else if 6 ≤ y16 then some (nI (A 6 i), m23) else gd (xin y16 6) (xLet (xUp m23 84 y16.toNatClampNeg ((m23 84 y16.toNatClampNeg) + 1)) (fun m25 => gd (xin y16 6) (some (nI (A 6 i), m25)))) else some ((3 * nI (A 6 i)), m23))))) := by
    unfold fX9_paidInYear
    rw [at_n (len := 6) rfl (by omega) (by decide), xB_s, (hC.2.2.2.2.2.2.1 i hi).1, t1, xB_s, m1, xB_s, m2, xB_s, m3, isz (by omega)]
  unfold ystp
  by_cases z : yn A i = 0
  · rw [if_pos z, l3, pk_mul] at hp
    rw [if_pos z]
    exact ⟨_, ν, hp, rfl, f84, fr⟩
  · rw [if_neg z] at hp ⊢
    have hw0 : 0 < A 0 0 := by
      rcases Nat.eq_zero_or_pos (A 0 0) with e | e
      · have := m5 z
        rw [e, Nat.zero_pow (by omega)] at this
        exact absurd this (by show ¬ 0 < 0; omega)
      · exact e
    have hwl : yw A i < A 0 0 := dg_lt hw0
    have kb := (hW.2.2.2.2.1 _ hwl).1
    obtain ⟨-, -, -, -, -, rb⟩ := hW.2.2.2.2.1 _ hwl
    have b9 := hW.2.2.2.2.2.2.2.2 (A 4 (yw A i)) (by omega)
    have ub := hu (A 4 (yw A i)) (by omega)
    have C64 : CLn A ν 64 (yn A i) (fun j => dg (A 0 0) (yn A i) (fst (yG A i (yn A i)) (A 0 0 ^ yn A i)) j) := ⟨hC2, hW, m3, by omega, fun j hj => ⟨dg_lt hw0, m4 j hj⟩⟩
    have lwd : fX4_lastWord N ν 64 = some (nI (yw A i), ν) := lastWord_n C64 (by omega)
    rw [lwd, xB_s, wornBy_c hC2 hW hwl, xB_s] at hp
    by_cases y : A 1 (yw A i) = 2
    · rw [if_pos y] at hp ⊢
      have e1 : fX9_at N ν 84 (-1) = some (0, ν) := by unfold fX9_at; rw [if_pos (by decide)]
      have e2 : fX8_isWorn N ν (-1) 0 = some (0, ν) := by unfold fX8_isWorn; rw [if_pos rfl]
      rw [e1, xB_s, e2, xB_s, if_pos rfl, if_pos (by decide)] at hp
      exact ⟨_, ν, hp, rfl, f84, fr⟩
    · rw [if_neg y] at hp ⊢
      have e2 : fX8_isWorn N ν (nI (A 4 (yw A i))) (nI (s.1 (A 4 (yw A i)))) = some (b2i (decide (A 9 (A 4 (yw A i)) ≤ s.1 (A 4 (yw A i)))), ν) := by
        unfold fX8_isWorn
        rw [if_neg (ne1 (by omega)), at_n (len := 6) rfl (by omega) (by decide), xB_s, hC2.2.2.2.2.2.2.2.2 _ (show A 4 (yw A i) < 6 by omega)]
        by_cases x : s.1 (A 4 (yw A i)) < A 9 (A 4 (yw A i))
        · rw [if_pos (nI_lt x (by omega)), decide_eq_false (by omega)]; rfl
        · rw [if_neg (nI_nlt (by omega) (by omega)), decide_eq_true (by omega)]; rfl
      rw [at_n (len := 6) rfl (by omega) (by decide), xB_s, f84 _ (by omega), e2, xB_s, b2i0] at hp
      by_cases x : s.1 (A 4 (yw A i)) < A 9 (A 4 (yw A i))
      · rw [if_neg (by simpa using x), if_neg (nI_pos (by omega)), l6, if_neg (nI_ge (by omega) (by omega)), xin_t (by omega) (by decide), gd_t, xLet_e, gd_t, nI_clamp (by omega), f84 _ (by omega), nI_1] at hp
        rw [if_pos x]
        refine ⟨_, _, hp, rfl, fun r hr => ?_, fun a k g => by rw [up_c (by unfold sy at g; omega)]; exact fr a k g⟩
        show _ = nI (if r = _ then _ else _)
        by_cases e : r = A 4 (yw A i)
        · rw [if_pos e, e, up_s]
        · rw [if_neg e, up_c (by omega)]; exact f84 r hr
      · rw [if_pos (by simpa using x), l3, pk_mul] at hp
        rw [if_neg x]
        exact ⟨_, ν, hp, rfl, f84, fr⟩
end
