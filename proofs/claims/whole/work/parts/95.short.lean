/-! THE CLASS ASKS; SHORTEST, FORALL -/
theorem Fc_cn {G : Nat → Bool} : ∀ B, cn G B 0 0 = Fc G B := by
  intro B
  induction B with
  | zero => rfl
  | succ B ih =>
    rw [cn_add, Nat.zero_add, ih]
    rfl
theorem Fc_0 {G : Nat → Bool} : ∀ B, Fc G B = 0 ↔ ∀ c, c < B → G c = false := by
  intro B
  induction B with
  | zero => exact ⟨fun _ c h => by omega, fun _ => rfl⟩
  | succ B ih =>
    show (if G B = true then Fc G B + 1 else Fc G B) = 0 ↔ _
    constructor
    · intro h c hc
      by_cases q : G B = true
      · rw [if_pos q] at h; omega
      · rw [if_neg q] at h
        by_cases e : c = B
        · subst e
          cases g : G c
          · rfl
          · exact absurd g q
        · exact ih.mp h c (by omega)
    · intro h
      rw [if_neg (by rw [h B (by omega)]; decide)]
      exact ih.mpr (fun c hc => h c (by omega))
theorem asks_step {A : Nat → Nat → Nat} {R C : Nat} {Q : Nat → Bool} {ry : Nat} {sl st : Bool} (h : AsksN A R C Q ry sl st) (hq : Q C = true) : AsksN A R (C + 1) Q (if A 8 C = 2 then ry else R + 1) (sl || decide (A 8 C = 1)) (st || decide (A 8 C ≠ 1)) := by
  obtain ⟨h1, h2, h3⟩ := h
  refine ⟨?_, ?_, ?_⟩
  · rw [Bool.or_eq_true, h1, decide_eq_true_iff]
    constructor
    · rintro (⟨j, a, b, c⟩ | c)
      · exact ⟨j, by omega, b, c⟩
      · exact ⟨C, by omega, hq, c⟩
    · rintro ⟨j, a, b, c⟩
      by_cases e : j = C
      · subst e; exact Or.inr c
      · exact Or.inl ⟨j, by omega, b, c⟩
  · rw [Bool.or_eq_true, h2, decide_eq_true_iff]
    constructor
    · rintro (⟨j, a, b, c⟩ | c)
      · exact ⟨j, by omega, b, c⟩
      · exact ⟨C, by omega, hq, c⟩
    · rintro ⟨j, a, b, c⟩
      by_cases e : j = C
      · subst e; exact Or.inr c
      · exact Or.inl ⟨j, by omega, b, c⟩
  · by_cases k : A 8 C = 2
    · rw [if_pos k]
      rcases h3 with ⟨r1, r2⟩ | ⟨r1, j, a, b, c⟩
      · refine Or.inl ⟨r1, fun j g1 g2 => ?_⟩
        by_cases e : j = C
        · subst e; exact k
        · exact r2 j (by omega) g2
      · exact Or.inr ⟨r1, j, by omega, b, c⟩
    · rw [if_neg k]
      exact Or.inr ⟨rfl, C, by omega, hq, k⟩
theorem asks_one {A : Nat → Nat → Nat} {R C c : Nat} (hc : c < C) : AsksN A R C (fun j => decide (j = c)) (if A 8 c = 2 then 0 else R + 1) (false || decide (A 8 c = 1)) (false || decide (A 8 c ≠ 1)) := by
  rw [Bool.false_or, Bool.false_or]
  refine ⟨?_, ?_, ?_⟩
  · rw [decide_eq_true_iff]
    exact ⟨fun h => ⟨c, hc, decide_eq_true rfl, h⟩, fun ⟨j, _, b, e⟩ => by rw [← of_decide_eq_true b]; exact e⟩
  · rw [decide_eq_true_iff]
    exact ⟨fun h => ⟨c, hc, decide_eq_true rfl, h⟩, fun ⟨j, _, b, e⟩ => by rw [← of_decide_eq_true b]; exact e⟩
  · by_cases k : A 8 c = 2
    · rw [if_pos k]
      exact Or.inl ⟨rfl, fun j _ b => by rw [of_decide_eq_true b]; exact k⟩
    · rw [if_neg k]
      exact Or.inr ⟨rfl, c, hc, decide_eq_true rfl, k⟩
section
variable {N : Nat} {A : Nat → Nat → Nat} {σ τ : XS} {ry : Nat} {sl st : Bool}
def DK (ry : Nat) (sl st : Bool) (σ : XS) : Prop := (ry = 0 → σ 46 2 = -1) ∧ (0 < ry → ry ≤ 6 ∧ σ 46 2 = nI (ry - 1)) ∧ σ 46 3 = b2i sl ∧ σ 46 4 = b2i st
theorem hear_c (hC : TC A σ) (hW : TW A) {a c : Nat} (ha : a < A 0 1) (hc : c < A 0 2) (hD : DK ry sl st σ) : ∃ τ, fX1_hear N σ (nI a) (nI c) = some (0, τ) ∧ DK (if A 8 c = 2 then ry else A 5 (A 7 a) + 1) (sl || decide (A 8 c = 1)) (st || decide (A 8 c ≠ 1)) τ ∧ τ 46 1 = σ 46 1 ∧ ∀ a k, a ≠ 46 → τ a k = σ a k := by
  have a6 := hW.2.1
  have vb := (hW.2.2.2.2.2.2.1 a ha).2.2
  have pb := hW.2.2.2.2.2.1 (A 7 a) (by omega)
  obtain ⟨d1, d2, d3, d4⟩ := hD
  -- behind the first row
  have tl : ∀ μ : XS, (∀ a k, a ≠ 46 → μ a k = σ a k) → μ 46 1 = σ 46 1 → μ 46 2 = σ 46 2 → μ 46 3 = b2i (sl || decide (A 8 c = 1)) → μ 46 4 = b2i (st || decide (A 8 c ≠ 1)) →
      ∃ τ, fX1_hear_J24 N (nI a) (nI c) μ = some (0, τ) ∧ DK (if A 8 c = 2 then ry else A 5 (A 7 a) + 1) (sl || decide (A 8 c = 1)) (st || decide (A 8 c ≠ 1)) τ ∧ τ 46 1 = σ 46 1 ∧ ∀ a k, a ≠ 46 → τ a k = σ a k := by
    intro μ m1 m2 m3 m4 m5
    have hC' : TC A μ := hC.eq (fun a k g1 g2 => m1 a k (by omega))
    unfold fX1_hear_J24
    rw [deaf_n hC' hW hc, xB_s, b2i0]
    by_cases k : A 8 c = 2
    · rw [if_pos (decide_eq_true k), if_pos k]
      exact ⟨μ, rfl, ⟨fun h => m3.trans (d1 h), fun h => ⟨(d2 h).1, m3.trans (d2 h).2⟩, m4, m5⟩, m2, m1⟩
    · rw [if_neg (by simpa using k), if_neg k, at_n (len := 6) rfl (by omega) (by decide), xB_s, (hC'.2.2.2.2.2.2.1 a ha).2]
      unfold fX8_rhymeOfPort
      rw [at_n (len := 4) rfl (by omega) (by decide), xB_s, xB_s, hC'.2.2.2.2.2.1 (A 7 a) (by omega), xLet_e]
      exact ⟨_, rfl, ⟨fun h => by omega, fun _ => ⟨by omega, up_s⟩, by rw [up_c (by omega)]; exact m4, by rw [up_c (by omega)]; exact m5⟩, by rw [up_c (by omega)]; exact m2, fun a k g => by rw [up_c (by omega)]; exact m1 a k g⟩
  unfold fX1_hear
  rw [slurs_n hC hW hc, xB_s, b2i0]
  by_cases k : A 8 c = 1
  · rw [if_pos (decide_eq_true k), xLet_e]
    refine tl _ (fun a k g => up_c (by omega)) (up_c (by omega)) (up_c (by omega)) ?_ ?_
    · rw [up_s, decide_eq_true k, Bool.or_true]; rfl
    · rw [up_c (by omega), decide_eq_false (fun g => g k), Bool.or_false]; exact d4
  · rw [if_neg (by simpa using k), xLet_e]
    refine tl _ (fun a k g => up_c (by omega)) (up_c (by omega)) (up_c (by omega)) ?_ ?_
    · rw [up_c (by omega), decide_eq_false k, Bool.or_false]; exact d3
    · rw [up_s, decide_eq_true k, Bool.or_true]; rfl
theorem dbegin_c (hC : TC A σ) (hW : TW A) {a : Nat} (ha : a < A 0 1) : ∃ τ, fX1_begin N σ (nI a) = some (0, τ) ∧ DK 0 false false τ ∧ τ 46 1 = nI (A 6 a) ∧ ∀ a k, a ≠ 46 → τ a k = σ a k := by
  have a6 := hW.2.1
  have w := hW.2.2.2.2.2.2.1 a ha
  unfold fX1_begin
  rw [at_n (len := 6) rfl (by omega) (by decide), xB_s, (hC.2.2.2.2.2.2.1 a ha).1, show (12 : Int32) = nI 12 from rfl, if_neg (nI_nlt w.2.1 (by omega)), xLet_e, xLet_e, xLet_e, xLet_e]
  refine ⟨_, rfl, ⟨fun _ => ?_, fun h => by omega, ?_, ?_⟩, ?_, fun a k g => ?_⟩
  · rw [up_c (by omega), up_c (by omega), up_s]
  · rw [up_c (by omega), up_s]; rfl
  · rw [up_s]; rfl
  · rw [up_c (by omega), up_c (by omega), up_c (by omega), up_s]
  · rw [up_c (by omega), up_c (by omega), up_c (by omega), up_c (by omega)]
theorem ask_c (hC : TC A σ) (hW : TW A) {a c : Nat} (ha : a < A 0 1) (hc : c < A 0 2) : ∃ τ ry sl st, fX1_ask N σ (nI a) (nI c) = some (0, τ) ∧ AsksN A (A 5 (A 7 a)) (A 0 2) (fun j => decide (j = c)) ry sl st ∧ DK ry sl st τ ∧ τ 46 1 = nI (A 6 a) ∧ ∀ a k, a ≠ 46 → τ a k = σ a k := by
  obtain ⟨τ, t1, t2, t3, t4⟩ := dbegin_c (N := N) hC hW ha
  obtain ⟨ρ, r1, r2, r3, r4⟩ := hear_c (N := N) (hC.eq (fun a k g1 g2 => t4 a k (by omega))) hW ha hc t2
  refine ⟨ρ, _, _, _, ?_, asks_one hc, r2, r3.trans t3, fun a k g => (r4 a k g).trans (t4 a k g)⟩
  unfold fX1_ask
  rw [t1, xB_s, r1, xB_s]
theorem askAll_c (hN : 10 ≤ N) (hC : TC A σ) (hW : TW A) {a : Nat} (ha : a < A 0 1) : ∃ τ ry sl st, fX1_askForAll N σ (nI a) = some (0, τ) ∧ AsksN A (A 5 (A 7 a)) (A 0 2) (fun _ => true) ry sl st ∧ DK ry sl st τ ∧ τ 46 1 = nI (A 6 a) ∧ ∀ a k, a ≠ 46 → τ a k = σ a k := by
  have c3 := hW.2.2.1
  have key : ∀ (d i q : Nat) (τ : XS) (ry : Nat) (sl st : Bool), i + d = A 0 2 → d < q → AsksN A (A 5 (A 7 a)) i (fun _ => true) ry sl st → DK ry sl st τ → τ 46 1 = nI (A 6 a) → (∀ a k, a ≠ 46 → τ a k = σ a k) → ∃ ρ ry sl st, fX1_askForAll_L7 N (nI a) (fun m7 => some (0, m7)) q (nI i) τ = some (0, ρ) ∧ AsksN A (A 5 (A 7 a)) (A 0 2) (fun _ => true) ry sl st ∧ DK ry sl st ρ ∧ ρ 46 1 = nI (A 6 a) ∧ ∀ a k, a ≠ 46 → ρ a k = σ a k := by
    intro d
    induction d with
    | zero =>
      intro i q τ ry sl st hi hq f1 f2 f3 f4
      obtain ⟨q, rfl⟩ : ∃ r, q = r + 1 := ⟨q - 1, by omega⟩
      rw [fX1_askForAll_L7, f4 1 11 (by omega), hC.2.2.1, if_pos (nI_le (by omega) (by omega))]
      rw [show i = A 0 2 by omega] at f1
      exact ⟨τ, ry, sl, st, rfl, f1, f2, f3, f4⟩
    | succ d ih =>
      intro i q τ ry sl st hi hq f1 f2 f3 f4
      obtain ⟨q, rfl⟩ : ∃ r, q = r + 1 := ⟨q - 1, by omega⟩
      obtain ⟨ρ, r1, r2, r3, r4⟩ := hear_c (N := N) (hC.eq (fun a k g1 g2 => f4 a k (by omega))) hW ha (show i < A 0 2 by omega) f2
      rw [fX1_askForAll_L7, f4 1 11 (by omega), hC.2.2.1, if_neg (nI_ge (by omega) (by omega)), r1, xB_s, nI_1]
      exact ih (i + 1) q ρ _ _ _ (by omega) (by omega) (asks_step f1 rfl) r2 (r3.trans f3) (fun a k g => (r4 a k g).trans (f4 a k g))
  obtain ⟨τ, t1, t2, t3, t4⟩ := dbegin_c (N := N) hC hW ha
  unfold fX1_askForAll
  rw [t1, xB_s]
  exact key (A 0 2) 0 N τ 0 false false (by omega) (by omega) ⟨⟨fun h => (by cases h), fun ⟨j, g, _⟩ => by omega⟩, ⟨fun h => (by cases h), fun ⟨j, g, _⟩ => by omega⟩, Or.inl ⟨rfl, fun j g => by omega⟩⟩ t2 t3 t4
/-- cells of the rows -/
def sr (a : Nat) : Prop := a = 47 ∨ (49 ≤ a ∧ a ≤ 55) ∨ (57 ≤ a ∧ a ≤ 63)
theorem no_lw {lw : Nat → Nat} {d : Nat} : LW A false lw d τ := fun h => by cases h
theorem spl0 {P : Nat → Bool} {lw : Nat → Nat} {d B : Nat} {v m : Int32} (h : SPl P (fun c => lch A false lw c d) B v m) : (Fc P B = 0 ∧ v = -1 ∧ m = nI 0) ∨ (Fc P B ≠ 0 ∧ v = nI 0 ∧ m = nI (Fc P B)) := by
  rcases h with ⟨h1, h2, h3⟩ | ⟨k, k1, k2, ⟨c, c1, c2, c3⟩, k4, k5⟩
  · exact Or.inl ⟨(Fc_0 B).mpr h3, h1, h2⟩
  · right
    have k0 : k = 0 := by rw [← c3]; exact lch_0 d
    subst k0
    refine ⟨fun h => ?_, k2, ?_⟩
    · rw [(Fc_0 B).mp h c c1] at c2; cases c2
    · rw [k5, ← Fc_cn]
      congr 1
      refine cn_congr _ _ _ (fun e _ _ => ?_)
      show (P e && decide (lch A false lw e d = 0)) = P e
      rw [decide_eq_true (lch_0 d), Bool.and_true]
theorem fewest_c (hN : 100 ≤ N) (hC : TC A σ) (hW : TW A) (hD : DK ry sl st σ) {wt : Nat} (hwt : wt ≤ 12) (h1 : σ 46 1 = nI wt) {n : Nat} (hn : n = shL (fun n c => lok A ry sl st c n 0 wt) (A 0 0) 4 1) :
    ∃ τ, fX2_fewestWords N σ = some (if n = 0 then -1 else nI n, τ) ∧ (∀ d, d ≤ n → ERow A ry sl st false (fun _ => 0) d τ) ∧ DM ry sl st false τ ∧ ∀ a k, ¬ sr a → τ a k = σ a k := by
  have key : ∀ (d m q : Nat) (τ : XS), m + d = 5 → 1 ≤ m → d < q → (∀ a k, ¬ sr a → τ a k = σ a k) → τ 47 5 = b2i false → (∀ e, e < m → ERow A ry sl st false (fun _ => 0) e τ) → ∃ ρ, fX2_fewestWords_L7 N (fun x10 m11 => some (x10, m11)) (fun m12 => some ((-1), m12)) q (nI m) τ = some (if shL (fun n c => lok A ry sl st c n 0 wt) (A 0 0) d m = 0 then -1 else nI (shL (fun n c => lok A ry sl st c n 0 wt) (A 0 0) d m), ρ) ∧ (∀ e, e ≤ shL (fun n c => lok A ry sl st c n 0 wt) (A 0 0) d m → ERow A ry sl st false (fun _ => 0) e ρ) ∧ DM ry sl st false ρ ∧ ∀ a k, ¬ sr a → ρ a k = σ a k := by
    intro d
    induction d with
    | zero =>
      intro m q τ hm m1 hq f1 f5 f2
      obtain ⟨q, rfl⟩ : ∃ r, q = r + 1 := ⟨q - 1, by omega⟩
      rw [fX2_fewestWords_L7, l4, if_pos (nI_lt (by omega) (by omega))]
      exact ⟨τ, rfl, fun e he => f2 e (by have h : e ≤ 0 := he; omega), ⟨fun z => (f1 _ _ (by unfold sr; omega)).trans (hD.1 z), fun z => ⟨(hD.2.1 z).1, (f1 _ _ (by unfold sr; omega)).trans (hD.2.1 z).2⟩, (f1 _ _ (by unfold sr; omega)).trans hD.2.2.1, (f1 _ _ (by unfold sr; omega)).trans hD.2.2.2, f5⟩, f1⟩
    | succ d ih =>
      intro m q τ hm m1 hq f1 f5 f2
      obtain ⟨q, rfl⟩ : ∃ r, q = r + 1 := ⟨q - 1, by omega⟩
      obtain ⟨j, rfl⟩ : ∃ j, m = j + 1 := ⟨m - 1, by omega⟩
      have hC' : TC A τ := hC.eq (fun a k g1 g2 => f1 a k (by unfold sr; omega))
      have hD' : DM ry sl st false τ := ⟨fun z => (f1 _ _ (by unfold sr; omega)).trans (hD.1 z), fun z => ⟨(hD.2.1 z).1, (f1 _ _ (by unfold sr; omega)).trans (hD.2.1 z).2⟩, (f1 _ _ (by unfold sr; omega)).trans hD.2.2.1, (f1 _ _ (by unfold sr; omega)).trans hD.2.2.2, f5⟩
      obtain ⟨ρ, r1, r2, r3⟩ := fill_c (N := N) (d := j) hN hC' hW hD' (by omega) (f2 j (by omega)) no_lw
      have fr : ∀ a k, ¬ sr a → ρ a k = σ a k := fun a k hs => by rw [r3 a k (by unfold sr at hs; omega) (by unfold sr at hs; omega)]; exact f1 a k hs
      have rows : ∀ e, e ≤ j + 1 → ERow A ry sl st false (fun _ => 0) e ρ := fun e he => by
        by_cases z : e = j + 1
        · subst z; exact r2
        · intro p s g1 g2
          rw [r3 _ _ (by omega) (by omega), r3 _ _ (by omega) (by omega)]
          exact f2 e (by omega) p s g1 g2
      have g5 : ρ 47 5 = b2i false := (r3 _ _ (by omega) (by omega)).trans f5
      have un : shL (fun n c => lok A ry sl st c n 0 wt) (A 0 0) (d + 1) (j + 1) = if Fc (fun c => lok A ry sl st c (j + 1) 0 wt) (A 0 0 ^ (j + 1)) = 0 then shL (fun n c => lok A ry sl st c n 0 wt) (A 0 0) d (j + 1 + 1) else j + 1 := rfl
      have sp := spl0 (r2 0 wt (by omega) (by omega))
      rw [fX2_fewestWords_L7, l4, if_neg (nI_nlt (by omega) (by omega)), r1, xB_s, fr 46 1 (by unfold sr; omega), h1, show (0 : Int32) = nI 0 from rfl, leastAt_c (by omega) (by omega) (by omega), xB_s, un]
      rcases sp with ⟨z, g1, g2⟩ | ⟨z, g1, g2⟩
      · have g1' : ρ (49 + (j + 1)) (0 % 2 * 13 + wt) = -1 := g1
        rw [if_pos z, g1', if_pos rfl, nI_1]
        exact ih (j + 1 + 1) q ρ (by omega) (by omega) (by omega) fr g5 (fun e he => rows e (by omega))
      · have g1' : ρ (49 + (j + 1)) (0 % 2 * 13 + wt) = nI 0 := g1
        rw [if_neg z, g1', if_neg (by decide), if_neg (by omega)]
        exact ⟨ρ, rfl, rows, ⟨fun z => (fr _ _ (by unfold sr; omega)).trans (hD.1 z), fun z => ⟨(hD.2.1 z).1, (fr _ _ (by unfold sr; omega)).trans (hD.2.1 z).2⟩, (fr _ _ (by unfold sr; omega)).trans hD.2.2.1, (fr _ _ (by unfold sr; omega)).trans hD.2.2.2, g5⟩, fr⟩
  obtain ⟨τ, t1, t2, t3, t4⟩ := begin_c (N := N) (A := A) (σ := σ) (ry := ry) (sl := sl) (st := st) (alt := false) (lw := fun _ => 0) hN
  have t1' : fX2_begin N σ 0 = some (0, τ) := t1
  unfold fX2_fewestWords
  rw [t1', xB_s, hn]
  exact key 4 1 N τ rfl (by omega) (by omega) (fun a k hs => t4 a k (by unfold sr at hs; omega) (by unfold sr at hs; omega) (by unfold sr at hs; omega)) t3 (fun e he => by rw [show e = 0 by omega]; exact t2)
theorem lines_c (hN : 100 ≤ N) (hC : TC A σ) (hW : TW A) (hD : DK ry sl st σ) {wt : Nat} (hwt : wt ≤ 12) (h1 : σ 46 1 = nI wt) {n : Nat} (n1 : 1 ≤ n) (n4 : n ≤ 6) :
    ∃ τ, fX2_linesOf N σ (nI n) = some (nI (Fc (fun c => lok A ry sl st c n 0 wt) (A 0 0 ^ n)), τ) ∧ ∀ a k, ¬ sr a → τ a k = σ a k := by
  have key : ∀ (d m q : Nat) (τ : XS), m + d = n → d < q → (∀ a k, ¬ sr a → τ a k = σ a k) → τ 47 5 = b2i false → ERow A ry sl st false (fun _ => 0) m τ → ∃ ρ, fX2_linesOf_L7 N (nI n) (fun m7 => xB (fX2_manyAt N m7 (nI n) 0 (m7 46 1)) (fun y8 m9 => some (y8, m9))) q (nI (m + 1)) τ = some (nI (Fc (fun c => lok A ry sl st c n 0 wt) (A 0 0 ^ n)), ρ) ∧ ∀ a k, ¬ sr a → ρ a k = σ a k := by
    intro d
    induction d with
    | zero =>
      intro m q τ hm hq f1 f5 f2
      obtain ⟨q, rfl⟩ : ∃ r, q = r + 1 := ⟨q - 1, by omega⟩
      rw [show m = n by omega] at f2 ⊢
      rw [fX2_linesOf_L7, if_pos (nI_lt (by omega) (by omega)), f1 46 1 (by unfold sr; omega), h1, show (0 : Int32) = nI 0 from rfl, manyAt_c (by omega) (by omega) (by omega), xB_s]
      refine ⟨τ, xo_e ?_, f1⟩
      rcases spl0 (f2 0 wt (by omega) (by omega)) with ⟨z, g1, g2⟩ | ⟨z, g1, g2⟩
      · rw [z]; exact g2
      · exact g2
    | succ d ih =>
      intro m q τ hm hq f1 f5 f2
      obtain ⟨q, rfl⟩ : ∃ r, q = r + 1 := ⟨q - 1, by omega⟩
      have hC' : TC A τ := hC.eq (fun a k g1 g2 => f1 a k (by unfold sr; omega))
      have hD' : DM ry sl st false τ := ⟨fun z => (f1 _ _ (by unfold sr; omega)).trans (hD.1 z), fun z => ⟨(hD.2.1 z).1, (f1 _ _ (by unfold sr; omega)).trans (hD.2.1 z).2⟩, (f1 _ _ (by unfold sr; omega)).trans hD.2.2.1, (f1 _ _ (by unfold sr; omega)).trans hD.2.2.2, f5⟩
      obtain ⟨ρ, r1, r2, r3⟩ := fill_c (N := N) (d := m) hN hC' hW hD' (by omega) f2 no_lw
      have fr : ∀ a k, ¬ sr a → ρ a k = σ a k := fun a k hs => by rw [r3 a k (by unfold sr at hs; omega) (by unfold sr at hs; omega)]; exact f1 a k hs
      rw [fX2_linesOf_L7, if_neg (nI_nlt (by omega) (by omega)), r1, xB_s, nI_1]
      exact ih (m + 1) q ρ (by omega) (by omega) fr ((r3 _ _ (by omega) (by omega)).trans f5) r2
  obtain ⟨τ, t1, t2, t3, t4⟩ := begin_c (N := N) (A := A) (σ := σ) (ry := ry) (sl := sl) (st := st) (alt := false) (lw := fun _ => 0) hN
  have t1' : fX2_begin N σ 0 = some (0, τ) := t1
  unfold fX2_linesOf
  rw [t1', xB_s]
  exact key n 0 N τ (by omega) (by omega) (fun a k hs => t4 a k (by unfold sr at hs; omega) (by unfold sr at hs; omega) (by unfold sr at hs; omega)) t3 t2
end
