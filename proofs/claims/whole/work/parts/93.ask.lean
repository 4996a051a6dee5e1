/-! ROWS begun; what is asked; what the rows say of lines -/
section
variable {N : Nat} {A : Nat → Nat → Nat} {σ τ : XS} {ry : Nat} {sl st alt : Bool} {lw : Nat → Nat}
theorem fillA {r : Nat} {v : Int32} (hN : 100 ≤ N) (hr : xlen r = 26) : ∃ τ, fJ7_fill_53178 N σ r v = some (0, τ) ∧ (∀ k, k < 26 → τ r k = v) ∧ ∀ a k, a ≠ r → τ a k = σ a k := by
  have key : ∀ (e i q : Nat) (τ : XS), i + e = 26 → e < q → (∀ a k, a ≠ r → τ a k = σ a k) → (∀ k, k < i → τ r k = v) → ∃ τ', fJ7_fill_53178_L5 N v (nI 26) r (fun m4 => some (0, m4)) q (nI i) τ = some (0, τ') ∧ (∀ k, k < 26 → τ' r k = v) ∧ ∀ a k, a ≠ r → τ' a k = σ a k := by
    intro e
    induction e with
    | zero =>
      intro i q τ hi hq f1 f2
      obtain ⟨q, rfl⟩ : ∃ z, q = z + 1 := ⟨q - 1, by omega⟩
      rw [fJ7_fill_53178_L5, if_pos (nI_le (by omega) (by omega))]
      exact ⟨τ, rfl, fun k hk => f2 k (by omega), f1⟩
    | succ e ih =>
      intro i q τ hi hq f1 f2
      obtain ⟨q, rfl⟩ : ∃ z, q = z + 1 := ⟨q - 1, by omega⟩
      rw [fJ7_fill_53178_L5, if_neg (nI_ge (by omega) (by omega)), xLet_e, hr, xin_t (by omega) (by decide), gd_t, nI_clamp (by omega), nI_1]
      refine ih (i + 1) q _ (by omega) (by omega) (fun a k ha => by rw [up_c (by omega)]; exact f1 a k ha) (fun k hk => ?_)
      by_cases z : k = i
      · subst z; rw [up_s]
      · rw [up_c (by omega)]; exact f2 k (by omega)
  unfold fJ7_fill_53178
  rw [hr]
  exact key 26 0 N σ (by omega) (by omega) (fun _ _ _ => rfl) (fun k hk => by omega)
theorem begin_c (hN : 100 ≤ N) : ∃ τ, fX2_begin N σ (b2i alt) = some (0, τ) ∧ ERow A ry sl st alt lw 0 τ ∧ τ 47 5 = b2i alt ∧ ∀ a k, a ≠ 47 → a ≠ 49 → a ≠ 57 → τ a k = σ a k := by
  obtain ⟨τ1, t1, t2, t3⟩ := fillA (N := N) (σ := xUp σ 47 5 (b2i alt)) (r := 49) (v := -1) hN rfl
  obtain ⟨τ2, s1, s2, s3⟩ := fillA (N := N) (σ := τ1) (r := 57) (v := 0) hN rfl
  have g07 : ∀ T : Option XO, gd (xin 0 7) T = T := fun _ => rfl
  have b01 : (decide (b2i alt = 0) || decide (b2i alt = 1)) = true := b2i01
  have hb : fX2_begin N σ (b2i alt) = fX2_begin_L27 N (fun m20 => some (0, m20)) N 0 τ2 := by
    unfold fX2_begin
    rw [b01, gd_t, xLet_e, g07, show 49 + (0 : Int32).toNatClampNeg = 49 from rfl, t1, xB_s, g07, show 57 + (0 : Int32).toNatClampNeg = 57 from rfl, s1, xB_s]
  have lp : fX2_begin_L27 N (fun m20 => some (0, m20)) N 0 τ2 = some (0, xUp (xUp (xUp (xUp τ2 49 0 0) 57 0 1) 49 13 0) 57 13 1) := by
    obtain ⟨q, rfl⟩ : ∃ z, N = z + 1 + 1 + 1 := ⟨N - 3, by omega⟩
    rw [fX2_begin_L27, if_neg (by decide), g07, show 49 + (0 : Int32).toNatClampNeg = 49 from rfl, show 57 + (0 : Int32).toNatClampNeg = 57 from rfl, xLet_e, show xin ((0 : Int32) * 13) 26 = true from rfl, gd_t, g07, xLet_e, gd_t, fX2_begin_L27, if_neg (by decide), g07, show 49 + (0 : Int32).toNatClampNeg = 49 from rfl, show 57 + (0 : Int32).toNatClampNeg = 57 from rfl, xLet_e, show xin (((0 : Int32) + 1) * 13) 26 = true from rfl, gd_t, g07, xLet_e, gd_t, fX2_begin_L27, if_pos (by decide)]
    rfl
  rw [hb, lp]
  refine ⟨_, rfl, fun p s hp hs => ?_, ?_, fun a k g1 g2 g3 => ?_⟩
  · have ez : ∀ z, z < 26 → z ≠ 0 → z ≠ 13 → (xUp (xUp (xUp (xUp τ2 49 0 0) 57 0 1) 49 13 0) 57 13 1) 49 z = -1 ∧ (xUp (xUp (xUp (xUp τ2 49 0 0) 57 0 1) 49 13 0) 57 13 1) 57 z = 0 := fun z h1 h2 h3 => by
      constructor
      · rw [up_c (by omega), up_c (by omega), up_c (by omega), up_c (by omega), s3 _ _ (by omega), t2 z h1]
      · rw [up_c (by omega), up_c (by omega), up_c (by omega), up_c (by omega), s2 z h1]
    by_cases z : s = 0
    · subst z
      refine Or.inr ⟨0, by omega, ?_, ⟨0, by rw [Nat.pow_zero]; omega, rfl, rfl⟩, fun _ _ _ => Nat.zero_le _, ?_⟩
      · rcases (show p = 0 ∨ p = 1 by omega) with rfl | rfl
        · show (xUp _ 57 13 1) 49 0 = _
          rw [up_c (by omega), up_c (by omega), up_c (by omega), up_s]; rfl
        · show (xUp _ 57 13 1) 49 13 = _
          rw [up_c (by omega), up_s]; rfl
      · rcases (show p = 0 ∨ p = 1 by omega) with rfl | rfl
        · show (xUp _ 57 13 1) 57 0 = _
          rw [up_c (by omega), up_c (by omega), up_s]; rfl
        · show (xUp _ 57 13 1) 57 13 = _
          rw [up_s]; rfl
    · obtain ⟨e1, e2⟩ := ez (p * 13 + s) (by omega) (by omega) (by omega)
      exact Or.inl ⟨e1, e2, fun c _ => decide_eq_false z⟩
  · rw [up_c (by omega), up_c (by omega), up_c (by omega), up_c (by omega), s3 _ _ (by omega), t3 _ _ (by omega), up_s]
  · rw [up_c (by omega), up_c (by omega), up_c (by omega), up_c (by omega), s3 _ _ (by omega), t3 _ _ (by omega), up_c (by omega)]
/-- rows 0 .. n -/
theorem rows_c (hN : 100 ≤ N) (hC : TC A σ) (hW : TW A) (hD : DM ry sl st alt σ) {n : Nat} (n1 : 1 ≤ n) (n6 : n ≤ 6) (hL : ∀ d, d < n → LW A alt lw d σ) {d : Nat} (hd : d < n) (hR : ERow A ry sl st alt lw d σ) :
    ∃ τ, fX2_fill N σ (nI (d + 1)) = some (0, τ) ∧ ERow A ry sl st alt lw (d + 1) τ ∧ TC A τ ∧ DM ry sl st alt τ ∧ (∀ d, d < n → LW A alt lw d τ) ∧ ∀ a k, a ≠ 49 + (d + 1) → a ≠ 57 + (d + 1) → τ a k = σ a k := by
  obtain ⟨τ, t1, t2, f1⟩ := fill_c (N := N) hN hC hW hD (by omega) hR (hL d hd)
  have hC' : TC A τ := hC.eq (fun a k g1 g2 => f1 a k (by omega) (by omega))
  refine ⟨τ, t1, t2, hC', ⟨fun z => (f1 _ _ (by omega) (by omega)).trans (hD.1 z), fun z => ⟨(hD.2.1 z).1, (f1 _ _ (by omega) (by omega)).trans (hD.2.1 z).2⟩, (f1 _ _ (by omega) (by omega)).trans hD.2.2.1, (f1 _ _ (by omega) (by omega)).trans hD.2.2.2.1, (f1 _ _ (by omega) (by omega)).trans hD.2.2.2.2⟩, fun e he al => ?_, f1⟩
  obtain ⟨n, l, q1, q2, q3⟩ := hL e he al
  exact ⟨n, l, ⟨hC', hW, (f1 _ _ (by omega) (by omega)).trans q1.2.2.1, q1.2.2.2.1, fun j hj => ⟨(q1.2.2.2.2 j hj).1, (f1 _ _ (by omega) (by omega)).trans (q1.2.2.2.2 j hj).2⟩⟩, q2, q3⟩
end
/-- what the rows say of a line: it scans, counts s, its last word chimes, no elision where both kinds of clerks hear it -/
def syC (A : Nat → Nat → Nat) (c : Nat) : Nat → Nat
  | 0 => 0
  | e + 1 => A 2 (wd (A 0 0) c e) + syC A c e
theorem syC_tie {A : Nat → Nat → Nat} {n c : Nat} : ∀ d, d ≤ n → sylS A (dg (A 0 0) n c) n = sylS A (dg (A 0 0) n c) (n - d) + syC A c d := by
  intro d
  induction d with
  | zero => intro _; rw [Nat.sub_zero]; rfl
  | succ d ih =>
    intro h
    have e1 : n - d = (n - (d + 1)) + 1 := by omega
    have e2 : dg (A 0 0) n c (n - (d + 1)) = wd (A 0 0) c d := by
      unfold dg wd
      rw [show n - 1 - (n - (d + 1)) = d by omega]
    rw [ih (by omega), e1]
    show (sylS A _ (n - (d + 1)) + A 2 (dg (A 0 0) n c (n - (d + 1)))) + syC A c d = sylS A _ (n - (d + 1)) + (A 2 (wd (A 0 0) c d) + syC A c d)
    rw [e2]; omega
theorem hel_sy {A : Nat → Nat → Nat} (hW : TW A) (h0 : 0 < A 0 0) {c : Nat} : ∀ d, hel A c d ≤ syC A c d := by
  intro d
  induction d with
  | zero => exact Nat.le_refl _
  | succ d ih =>
    have := (hW.2.2.2.2.1 _ (wd_lt (W := A 0 0) (c := c) (e := d) h0)).2.1
    show (if _ then 1 else 0) + hel A c d ≤ A 2 (wd (A 0 0) c d) + syC A c d
    by_cases q : A 1 (wd (A 0 0) c d) = 1 ∧ d ≠ 0
    · rw [if_pos q]; omega
    · rw [if_neg q]; omega
theorem lok_iff {A : Nat → Nat → Nat} (hW : TW A) (h0 : 0 < A 0 0) {ry : Nat} {sl st : Bool} {c : Nat} : ∀ d p s, lok A ry sl st c d p s = true ↔ hsc A c d p = true ∧ syC A c d = s + (if sl = true then hel A c d else 0) ∧ (d = 0 ∨ ry = 0 ∨ chimS A (wd (A 0 0) c 0) (ry - 1) = true) ∧ (sl = true → st = true → hel A c d = 0) := by
  intro d
  induction d with
  | zero =>
    intro p s
    show decide (s = 0) = true ↔ true = true ∧ 0 = s + (if sl = true then 0 else 0) ∧ _ ∧ (sl = true → st = true → 0 = 0)
    rw [decide_eq_true_iff, ite_self]
    exact ⟨fun h => ⟨rfl, by omega, Or.inl rfl, fun _ _ => rfl⟩, fun h => by have := h.2.1; omega⟩
  | succ d ih =>
    intro p s
    have k2 := (hW.2.2.2.2.1 _ (wd_lt (W := A 0 0) (c := c) (e := d) h0)).2.1
    show (alS A ry sl st (wd (A 0 0) c d) p (decide (d = 0)) && (decide (ctS A sl (wd (A 0 0) c d) (decide (d = 0)) ≤ s) && lok A ry sl st c d ((p + A 2 (wd (A 0 0) c d)) % 2) (s - ctS A sl (wd (A 0 0) c d) (decide (d = 0))))) = true ↔
      (fitS A (wd (A 0 0) c d) p && hsc A c d ((p + A 2 (wd (A 0 0) c d)) % 2)) = true ∧ A 2 (wd (A 0 0) c d) + syC A c d = s + (if sl = true then (if A 1 (wd (A 0 0) c d) = 1 ∧ d ≠ 0 then 1 else 0) + hel A c d else 0) ∧ (d + 1 = 0 ∨ ry = 0 ∨ chimS A (wd (A 0 0) c 0) (ry - 1) = true) ∧ (sl = true → st = true → (if A 1 (wd (A 0 0) c d) = 1 ∧ d ≠ 0 then 1 else 0) + hel A c d = 0)
    rw [Bool.and_eq_true, Bool.and_eq_true, Bool.and_eq_true, ih, decide_eq_true_iff]
    have hs := hel_sy hW h0 (c := c) d
    unfold alS ctS
    rw [Bool.and_eq_true]
    generalize fitS A (wd (A 0 0) c d) p = F
    generalize hsc A c d ((p + A 2 (wd (A 0 0) c d)) % 2) = H
    by_cases z : d = 0
    · subst z
      have hz : hel A c 0 = 0 := rfl
      have sz : syC A c 0 = 0 := rfl
      rw [decide_eq_true (rfl : 0 = 0), if_pos rfl, hz, sz, if_neg (fun q : A 1 (wd (A 0 0) c 0) = 1 ∧ 0 ≠ 0 => q.2 rfl), Bool.or_eq_true, decide_eq_true_iff]
      have e : (sl && (!true && decide (A 1 (wd (A 0 0) c 0) = 1))) = false := by cases sl <;> rfl
      rw [e, if_neg (by decide), ite_self]
      constructor
      · rintro ⟨⟨f, g⟩, a, b, c', _, _⟩
        exact ⟨⟨f, b⟩, by omega, Or.inr g, fun _ _ => rfl⟩
      · rintro ⟨⟨f, g⟩, a, b, _⟩
        refine ⟨⟨f, ?_⟩, by omega, g, by omega, Or.inl rfl, fun _ _ => rfl⟩
        rcases b with b | b
        · omega
        · exact b
    · rw [decide_eq_false z, if_neg (by decide)]
      by_cases q : A 1 (wd (A 0 0) c d) = 1
      · rw [decide_eq_true q, if_pos (⟨q, z⟩ : A 1 (wd (A 0 0) c d) = 1 ∧ d ≠ 0)]
        cases sl with
        | false =>
          constructor
          · rintro ⟨⟨f, g⟩, a, b, c', d', e'⟩
            refine ⟨⟨f, b⟩, ?_, Or.inr (d'.resolve_left z), fun h => by cases h⟩
            have c2 : syC A c d = s - A 2 (wd (A 0 0) c d) + 0 := c'
            have a2 : A 2 (wd (A 0 0) c d) ≤ s := a
            show _ = s + 0
            omega
          · rintro ⟨⟨f, g⟩, a, b, c'⟩
            have a2 : A 2 (wd (A 0 0) c d) + syC A c d = s + 0 := a
            refine ⟨⟨f, rfl⟩, ?_, g, ?_, Or.inr (b.resolve_left (by omega)), fun h => by cases h⟩
            · show A 2 (wd (A 0 0) c d) ≤ s
              omega
            · show syC A c d = s - A 2 (wd (A 0 0) c d) + 0
              omega
        | true =>
          cases st with
          | true =>
            constructor
            · rintro ⟨⟨f, g⟩, _⟩
              cases g
            · rintro ⟨_, _, _, h⟩
              have := h rfl rfl
              omega
          | false =>
            constructor
            · rintro ⟨⟨f, g⟩, a, b, c', d', e'⟩
              refine ⟨⟨f, b⟩, ?_, Or.inr (d'.resolve_left z), fun _ h => by cases h⟩
              have c2 : syC A c d = s - (A 2 (wd (A 0 0) c d) - 1) + hel A c d := c'
              have a2 : A 2 (wd (A 0 0) c d) - 1 ≤ s := a
              show _ = s + (1 + hel A c d)
              omega
            · rintro ⟨⟨f, g⟩, a, b, c'⟩
              have a2 : A 2 (wd (A 0 0) c d) + syC A c d = s + (1 + hel A c d) := a
              refine ⟨⟨f, rfl⟩, ?_, g, ?_, Or.inr (b.resolve_left (by omega)), fun _ h => by cases h⟩
              · show A 2 (wd (A 0 0) c d) - 1 ≤ s
                omega
              · show syC A c d = s - (A 2 (wd (A 0 0) c d) - 1) + hel A c d
                omega
      · rw [decide_eq_false q, if_neg (fun g : A 1 (wd (A 0 0) c d) = 1 ∧ d ≠ 0 => q g.1)]
        have e : (sl && (!false && false)) = false := by cases sl <;> rfl
        have e2 : (!(sl && (st && false))) = true := by cases sl <;> cases st <;> rfl
        rw [e, if_neg (by decide), e2]
        constructor
        · rintro ⟨⟨f, g⟩, a, b, c', d', e'⟩
          refine ⟨⟨f, b⟩, ?_, Or.inr (d'.resolve_left z), fun h1 h2 => by rw [e' h1 h2]⟩
          by_cases y : sl = true
          · rw [if_pos y] at c' ⊢; omega
          · rw [if_neg y] at c' ⊢; omega
        · rintro ⟨⟨f, g⟩, a, b, c'⟩
          have c2 : sl = true → st = true → hel A c d = 0 := fun h1 h2 => by have := c' h1 h2; omega
          by_cases y : sl = true
          · rw [if_pos y] at a ⊢
            exact ⟨⟨f, rfl⟩, by omega, g, by omega, Or.inr (b.resolve_left (by omega)), c2⟩
          · rw [if_neg y] at a ⊢
            exact ⟨⟨f, rfl⟩, by omega, g, by omega, Or.inr (b.resolve_left (by omega)), c2⟩
