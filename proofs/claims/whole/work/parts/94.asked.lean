/-! WHO IS ASKED; the reference's shortest lines -/
def AsksN (A : Nat → Nat → Nat) (R C : Nat) (Q : Nat → Bool) (ry : Nat) (sl st : Bool) : Prop := (sl = true ↔ ∃ j, j < C ∧ Q j = true ∧ A 8 j = 1) ∧ (st = true ↔ ∃ j, j < C ∧ Q j = true ∧ A 8 j ≠ 1) ∧ ((ry = 0 ∧ ∀ j, j < C → Q j = true → A 8 j = 2) ∨ (ry = R + 1 ∧ ∃ j, j < C ∧ Q j = true ∧ A 8 j ≠ 2))
theorem pass_iff {A : Nat → Nat → Nat} (hW : TW A) (h0 : 0 < A 0 0) {Q : Nat → Bool} {ry : Nat} {sl st : Bool} {a n c : Nat} (hA : AsksN A (A 5 (A 7 a)) (A 0 2) Q ry sl st) (hq : ∃ j, j < A 0 2 ∧ Q j = true) (hn : 1 ≤ n) :
    (∀ j, j < A 0 2 → Q j = true → passS A (dg (A 0 0) n c) n a (A 8 j) = true) ↔ lok A ry sl st c n 0 (A 6 a) = true := by
  obtain ⟨s1, s2, s3⟩ := hA
  have t1 : scanS A (dg (A 0 0) n c) n = hsc A c n 0 := by
    rw [hsc_tie n (Nat.le_refl _), Nat.sub_self]; rfl
  have t2 : elS A (dg (A 0 0) n c) (n - 1) = hel A c n := by
    have := hel_tie (A := A) (n := n) (c := c) (n - 1) (by omega)
    rw [show n - 1 + 1 = n by omega, Nat.sub_self] at this
    rw [this]; exact Nat.zero_add _
  have t3 : sylS A (dg (A 0 0) n c) n = syC A c n := by
    rw [syC_tie n (Nat.le_refl _), Nat.sub_self]; exact Nat.zero_add _
  have t4 : dg (A 0 0) n c (n - 1) = wd (A 0 0) c 0 := by
    unfold dg wd
    rw [show n - 1 - (n - 1) = 0 by omega]
  have hs := hel_sy hW h0 (c := c) n
  have ps : ∀ k, passS A (dg (A 0 0) n c) n a k = true ↔ (if k = 1 then syC A c n - hel A c n else syC A c n) = A 6 a ∧ hsc A c n 0 = true ∧ (k = 2 ∨ chimS A (wd (A 0 0) c 0) (A 5 (A 7 a)) = true) := fun k => by
    unfold passS cntS
    rw [t1, t2, t3, t4, Bool.and_eq_true, Bool.and_eq_true, Bool.and_eq_true, Bool.or_eq_true, decide_eq_true_iff, decide_eq_true_iff, decide_eq_true_iff]
    exact ⟨fun h => h.2, fun h => ⟨by omega, h⟩⟩
  rw [lok_iff hW h0]
  constructor
  · intro h
    obtain ⟨j0, j1, j2⟩ := hq
    have p0 := (ps _).mp (h j0 j1 j2)
    have cs : sl = true → syC A c n = A 6 a + hel A c n := fun g => by
      obtain ⟨j, q1, q2, q3⟩ := s1.mp g
      have := ((ps _).mp (h j q1 q2)).1
      rw [if_pos q3] at this
      have w := (hW.2.2.2.2.2.2.1)
      omega
    have ct : st = true → syC A c n = A 6 a := fun g => by
      obtain ⟨j, q1, q2, q3⟩ := s2.mp g
      have := ((ps _).mp (h j q1 q2)).1
      rw [if_neg q3] at this
      exact this
    refine ⟨p0.2.1, ?_, ?_, fun g1 g2 => ?_⟩
    · by_cases g : sl = true
      · rw [if_pos g]; exact cs g
      · rw [if_neg g]
        have k1 : A 8 j0 ≠ 1 := fun e => g (s1.mpr ⟨j0, j1, j2, e⟩)
        have := p0.1
        rw [if_neg k1] at this
        exact this
    · rcases s3 with ⟨r1, _⟩ | ⟨r1, j, q1, q2, q3⟩
      · exact Or.inr (Or.inl r1)
      · refine Or.inr (Or.inr ?_)
        rw [r1]
        exact (((ps _).mp (h j q1 q2)).2.2).resolve_left q3
    · have a1 := cs g1
      have a2 := ct g2
      omega
  · rintro ⟨g1, g2, g3, g4⟩ j q1 q2
    refine (ps _).mpr ⟨?_, g1, ?_⟩
    · by_cases k : A 8 j = 1
      · have e : sl = true := s1.mpr ⟨j, q1, q2, k⟩
        rw [if_pos e] at g2
        rw [if_pos k]; omega
      · have e : st = true := s2.mpr ⟨j, q1, q2, k⟩
        rw [if_neg k]
        by_cases g : sl = true
        · rw [if_pos g] at g2
          have := g4 g e
          omega
        · rw [if_neg g] at g2
          exact g2
    · by_cases k : A 8 j = 2
      · exact Or.inl k
      · right
        rcases s3 with ⟨r1, r2⟩ | ⟨r1, _⟩
        · exact absurd (r2 j q1 q2) k
        · rcases g3 with h | h | h
          · omega
          · omega
          · rw [r1] at h; exact h
def paA (A : Nat → Nat → Nat) (Q : Nat → Bool) (l : Nat → Nat) (n a : Nat) : Nat → Nat → Bool
  | 0, _ => true
  | d + 1, i => (!(Q i) || passS A l n a (A 8 i)) && paA A Q l n a d (i + 1)
theorem paA_iff {A : Nat → Nat → Nat} {Q : Nat → Bool} {l : Nat → Nat} {n a : Nat} : ∀ d i, paA A Q l n a d i = true ↔ ∀ j, i ≤ j → j < i + d → Q j = true → passS A l n a (A 8 j) = true := by
  intro d
  induction d with
  | zero => intro i; exact ⟨fun _ j h1 h2 => by omega, fun _ => rfl⟩
  | succ d ih =>
    intro i
    show ((!(Q i) || passS A l n a (A 8 i)) && paA A Q l n a d (i + 1)) = true ↔ _
    rw [Bool.and_eq_true, ih, Bool.or_eq_true]
    constructor
    · rintro ⟨h1, h2⟩ j g1 g2 g3
      by_cases e : j = i
      · subst e
        rcases h1 with h | h
        · rw [g3] at h; cases h
        · exact h
      · exact h2 j (by omega) (by omega) g3
    · intro h
      refine ⟨?_, fun j g1 g2 g3 => h j (by omega) (by omega) g3⟩
      cases hq : Q i with
      | false => exact Or.inl rfl
      | true => exact Or.inr (h i (Nat.le_refl _) (by omega) hq)
section
variable {N : Nat} {A : Nat → Nat → Nat} {σ τ : XS} {n : Nat} {l : Nat → Nat} {Q : Nat → Bool}
def Ask1 (A : Nat → Nat → Nat) (Q : Nat → Bool) (v : Int32) : Prop := (v = -1 ∧ ∀ j, Q j = true) ∨ ∃ c, c < A 0 2 ∧ v = nI c ∧ ∀ j, Q j = decide (j = c)
theorem some_m (hN : 10 ≤ N) (h : MLn A σ 94 n l) {a : Nat} (ha : a < A 0 1) {v : Int32} (hv : Ask1 A Q v) : fX10_passesSome N σ (nI n) (nI a) v = some (b2i (paA A Q l n a (A 0 2) 0), σ) := by
  have c1' := h.1.2.2.1
  have c3 := h.2.1.2.2.1
  have zero : ∀ (d i q : Nat), i + d = A 0 2 → d < q → fX10_passesSome_L6 N (nI n) (nI a) v (fun x4 m5 => gd (decide (x4 = 0) || decide (x4 = 1)) (some (x4, m5))) q 0 (nI i) σ = some (0, σ) := by
    intro d
    induction d with
    | zero =>
      intro i q hi hq
      obtain ⟨q, rfl⟩ : ∃ r, q = r + 1 := ⟨q - 1, by omega⟩
      rw [fX10_passesSome_L6, xin298, gd_t, c2, c1', if_pos (nI_le (by omega) (by omega))]; rfl
    | succ d ih =>
      intro i q hi hq
      obtain ⟨q, rfl⟩ : ∃ r, q = r + 1 := ⟨q - 1, by omega⟩
      rw [fX10_passesSome_L6, xin298, gd_t, c2, c1', if_neg (nI_ge (by omega) (by omega)), if_pos rfl, nI_1]
      exact ih (i + 1) q (by omega) (by omega)
  have key : ∀ (d i q : Nat), i + d = A 0 2 → d < q → fX10_passesSome_L6 N (nI n) (nI a) v (fun x4 m5 => gd (decide (x4 = 0) || decide (x4 = 1)) (some (x4, m5))) q 1 (nI i) σ = some (b2i (paA A Q l n a d i), σ) := by
    intro d
    induction d with
    | zero =>
      intro i q hi hq
      obtain ⟨q, rfl⟩ : ∃ r, q = r + 1 := ⟨q - 1, by omega⟩
      rw [fX10_passesSome_L6, xin298, gd_t, c2, c1', if_pos (nI_le (by omega) (by omega))]; rfl
    | succ d ih =>
      intro i q hi hq
      obtain ⟨q, rfl⟩ : ∃ r, q = r + 1 := ⟨q - 1, by omega⟩
      have as : Q i = true → fX10_passesSome_J33 N (nI n) (nI a) v (nI i) (fX10_passesSome_L6 N (nI n) (nI a) v (fun x4 m5 => gd (decide (x4 = 0) || decide (x4 = 1)) (some (x4, m5))) q) σ = some (b2i (paA A Q l n a (d + 1) i), σ) := by
        intro hq1
        unfold fX10_passesSome_J33
        rw [passed_m hN h ha (by omega), xB_s, b2i0, nI_1]
        show _ = some (b2i ((!(Q i) || passS A l n a (A 8 i)) && paA A Q l n a d (i + 1)), σ)
        rw [hq1, Bool.not_true, Bool.false_or]
        by_cases p : passS A l n a (A 8 i) = true
        · rw [if_pos p, p, Bool.true_and]
          exact ih (i + 1) q (by omega) (by omega)
        · have p2 : passS A l n a (A 8 i) = false := by cases g : passS A l n a (A 8 i); rfl; exact absurd g p
          rw [if_neg p, p2, Bool.false_and]
          exact zero d (i + 1) q (by omega) (by omega)
      rw [fX10_passesSome_L6, xin298, gd_t, c2, c1', if_neg (nI_ge (by omega) (by omega)), if_neg (by decide)]
      rcases hv with ⟨v1, v2⟩ | ⟨c, cc, v1, v2⟩
      · rw [if_pos v1]
        exact as (v2 i)
      · rw [if_neg (by rw [v1]; exact ne1 (by omega))]
        by_cases e : i = c
        · rw [if_pos (by rw [v1, e])]
          exact as (by rw [v2]; exact decide_eq_true e)
        · rw [if_neg (by rw [v1, nI_eq (by omega) (by omega)]; exact e), nI_1, ih (i + 1) q (by omega) (by omega)]
          show _ = some (b2i ((!(Q i) || passS A l n a (A 8 i)) && paA A Q l n a d (i + 1)), σ)
          rw [v2, decide_eq_false e]; rfl
  exact key (A 0 2) 0 N (by omega) (by omega)
/-- what the reference holds when it has gone through c lines of n words -/
def SI (A : Nat → Nat → Nat) (G : Nat → Bool) (n c : Nat) (τ : XS) : Prop := τ 85 23 = nI (Fc G c) ∧ (0 < Fc G c → ∀ i, i < n → τ 95 i = nI (dg (A 0 0) n (fst G c) i))
def s4 (a k : Nat) : Prop := a = 94 ∨ a = 95 ∨ (a = 85 ∧ k = 23)
theorem pow4 (hW : TW A) (hn : n ≤ 4) : A 0 0 ^ n ≤ 6561 := by
  have e1 : A 0 0 ^ n ≤ 9 ^ n := Nat.pow_le_pow_left hW.1 n
  have e2 : 9 ^ n ≤ 9 ^ 4 := Nat.pow_le_pow_right (by decide) hn
  have e3 : 9 ^ 4 = 6561 := rfl
  omega
theorem len_m (hN : 10000 ≤ N) (hM : TM A (σ 86)) (hW : TW A) {a : Nat} (ha : a < A 0 1) {v : Int32} (hv : Ask1 A Q v) {ry : Nat} {sl st : Bool} (hA : AsksN A (A 5 (A 7 a)) (A 0 2) Q ry sl st) (hQ : ∃ j, j < A 0 2 ∧ Q j = true) (n1 : 1 ≤ n) (n4 : n ≤ 4) (h23 : σ 85 23 = nI 0) {k : XS → Option XO} :
    ∃ τ, fX10_shortestOf_L22 N (nI a) v (nI n) (nI (A 0 0 ^ n)) k N 0 σ = k τ ∧ SI A (fun c => lok A ry sl st c n 0 (A 6 a)) n (A 0 0 ^ n) τ ∧ ∀ a k, ¬ s4 a k → τ a k = σ a k := by
  have hpow := pow4 hW n4
  have a6 := hW.2.1
  generalize hG : (fun c => lok A ry sl st c n 0 (A 6 a)) = G
  have key : ∀ (d c q : Nat) (τ : XS), c + d = A 0 0 ^ n → d < q → (∀ a k, ¬ s4 a k → τ a k = σ a k) → SI A G n c τ → ∃ ρ, fX10_shortestOf_L22 N (nI a) v (nI n) (nI (A 0 0 ^ n)) k q (nI c) τ = k ρ ∧ SI A G n (A 0 0 ^ n) ρ ∧ ∀ a k, ¬ s4 a k → ρ a k = σ a k := by
    intro d
    induction d with
    | zero =>
      intro c q τ hd hq f1 f2
      obtain ⟨q, rfl⟩ : ∃ r, q = r + 1 := ⟨q - 1, by omega⟩
      rw [fX10_shortestOf_L22, if_pos (nI_le (by omega) (by omega))]
      rw [show c = A 0 0 ^ n by omega] at f2
      exact ⟨τ, rfl, f2, f1⟩
    | succ d ih =>
      intro c q τ hd hq f1 f2
      obtain ⟨q, rfl⟩ : ∃ r, q = r + 1 := ⟨q - 1, by omega⟩
      have hW0 : 0 < A 0 0 := by
        rcases Nat.eq_zero_or_pos (A 0 0) with e | e
        · rw [e, Nat.zero_pow (by omega)] at hd; omega
        · exact e
      have fle := Fc_le (G := G) c
      obtain ⟨ν, v1, v2, v3⟩ := lays_m (N := N) (σ := τ) (W := A 0 0) (n := n) (c := c) (by omega) ((f1 _ _ (by unfold s4; omega)).trans hM.1) hW0 (by have := hW.1; omega) (by omega) (by omega)
      have n1' : ∀ a k, ¬ s4 a k → ν a k = σ a k := fun a k hs => by rw [v3 a k (by unfold s4 at hs; omega)]; exact f1 a k hs
      have hL : MLn A ν 94 n (dg (A 0 0) n c) := ⟨hM.eqL hW (fun k _ => n1' _ _ (by unfold s4; omega)), hW, by show n ≤ 6; omega, by decide, fun i hi => ⟨dg_lt hW0, v2 i hi⟩⟩
      have eG : paA A Q (dg (A 0 0) n c) n a (A 0 2) 0 = G c := by
        rw [← hG, Bool.eq_iff_iff, paA_iff, ← pass_iff hW hW0 hA hQ n1]
        exact ⟨fun h j g1 g2 => h j (by omega) (by omega) g2, fun h j _ g1 g2 => h j (by omega) g2⟩
      obtain ⟨i1, i2⟩ := f2
      rw [fX10_shortestOf_L22, if_neg (nI_ge (by omega) (by omega)), v1, xB_s, some_m (by omega) hL ha hv, eG, xB_s, b2i0]
      by_cases g : G c = true
      · have eF : Fc G (c + 1) = Fc G c + 1 := by show (if G c = true then _ else _) = _; rw [if_pos g]
        obtain ⟨μ, m1, m2, m3, m4⟩ := keeps_m (N := N) (σ := ν) (n := n) (F := Fc G c) (by omega) (by omega) (by omega) (by rw [v3 _ _ (by omega)]; exact i1)
        rw [if_pos g, m1, xB_s, nI_1]
        refine ih (c + 1) q μ (by omega) (by omega) (fun a k hs => by rw [m4 a k (by unfold s4 at hs; omega) (by unfold s4 at hs; omega)]; exact n1' a k hs) ⟨by rw [m2, eF], fun _ i hi => ?_⟩
        rw [m3 i hi]
        show _ = nI (dg (A 0 0) n (if G c = true ∧ Fc G c = 0 then c else fst G c) i)
        by_cases z : Fc G c = 0
        · rw [if_pos z, if_pos ⟨g, z⟩]
          exact v2 i hi
        · rw [if_neg z, if_neg (fun q => z q.2), v3 _ _ (by omega)]
          exact i2 (by omega) i hi
      · have eF : Fc G (c + 1) = Fc G c := by show (if G c = true then _ else _) = _; rw [if_neg g]
        have e1 : fst G (c + 1) = fst G c := by show (if G c = true ∧ Fc G c = 0 then c else _) = _; rw [if_neg (fun q => g q.1)]
        rw [if_neg g, nI_1]
        refine ih (c + 1) q ν (by omega) (by omega) n1' ⟨by rw [eF]; exact (v3 _ _ (by omega)).trans i1, fun e i hi => ?_⟩
        rw [eF] at e
        rw [e1]
        exact (v3 _ _ (by omega)).trans (i2 e i hi)
  exact key (A 0 0 ^ n) 0 N σ (by omega) (by omega) (fun _ _ _ => rfl) ⟨h23, fun e => absurd e (by show ¬ 0 < 0; omega)⟩
/-- the shortest length with a line found, at most 4; else none -/
def shL (G : Nat → Nat → Bool) (W : Nat) : Nat → Nat → Nat
  | 0, _ => 0
  | d + 1, n => if Fc (G n) (W ^ n) = 0 then shL G W d (n + 1) else n
theorem shortest_m (hN : 10000 ≤ N) (hM : TM A (σ 86)) (hW : TW A) {a : Nat} (ha : a < A 0 1) {v : Int32} (hv : Ask1 A Q v) {ry : Nat} {sl st : Bool} (hA : AsksN A (A 5 (A 7 a)) (A 0 2) Q ry sl st) (hQ : ∃ j, j < A 0 2 ∧ Q j = true) {n : Nat} (hn : n = shL (fun n c => lok A ry sl st c n 0 (A 6 a)) (A 0 0) 4 1) :
    ∃ τ, fX10_shortestOf N σ (nI a) v = some (if n = 0 then -1 else nI n, τ) ∧ (n ≠ 0 → SI A (fun c => lok A ry sl st c n 0 (A 6 a)) n (A 0 0 ^ n) τ) ∧ ∀ a k, ¬ s4 a k → τ a k = σ a k := by
  have key : ∀ (d m q : Nat) (τ : XS), m + d = 5 → 1 ≤ m → d < q → (∀ a k, ¬ s4 a k → τ a k = σ a k) → τ 85 23 = nI 0 → ∃ ρ, fX10_shortestOf_L7 N (nI a) v (fun x16 m17 => some (x16, m17)) (fun m18 => some ((-1), m18)) q (nI m) τ = some (if shL (fun n c => lok A ry sl st c n 0 (A 6 a)) (A 0 0) d m = 0 then -1 else nI (shL (fun n c => lok A ry sl st c n 0 (A 6 a)) (A 0 0) d m), ρ) ∧ (shL (fun n c => lok A ry sl st c n 0 (A 6 a)) (A 0 0) d m ≠ 0 → SI A (fun c => lok A ry sl st c (shL (fun n c => lok A ry sl st c n 0 (A 6 a)) (A 0 0) d m) 0 (A 6 a)) (shL (fun n c => lok A ry sl st c n 0 (A 6 a)) (A 0 0) d m) (A 0 0 ^ (shL (fun n c => lok A ry sl st c n 0 (A 6 a)) (A 0 0) d m)) ρ) ∧ ∀ a k, ¬ s4 a k → ρ a k = σ a k := by
    intro d
    induction d with
    | zero =>
      intro m q τ hm m1 hq f1 f2
      obtain ⟨q, rfl⟩ : ∃ r, q = r + 1 := ⟨q - 1, by omega⟩
      rw [fX10_shortestOf_L7, l4, if_pos (nI_lt (by omega) (by omega))]
      exact ⟨τ, rfl, fun h => absurd rfl h, f1⟩
    | succ d ih =>
      intro m q τ hm m1 hq f1 f2
      obtain ⟨q, rfl⟩ : ∃ r, q = r + 1 := ⟨q - 1, by omega⟩
      have hpow := pow4 hW (show m ≤ 4 by omega)
      have fle := Fc_le (G := fun c => lok A ry sl st c m 0 (A 6 a)) (A 0 0 ^ m)
      rw [fX10_shortestOf_L7, l4, if_neg (nI_nlt (by omega) (by omega)), ways_m (by omega) ((f1 _ _ (by unfold s4; omega)).trans hM.1) (by omega), xB_s]
      obtain ⟨ρ, r1, r2, r3⟩ := len_m (N := N) (σ := τ) (n := m) hN (hM.eqL hW (fun k _ => f1 _ _ (by unfold s4; omega))) hW ha hv hA hQ m1 (by omega) f2 (k := fun m15 => if (m15 85 23) ≤ 0 then fX10_shortestOf_L7 N (nI a) v (fun x16 m17 => some (x16, m17)) (fun m18 => some ((-1), m18)) q (nI m + 1) m15 else some (nI m, m15))
      rw [r1, r2.1]
      have fr : ∀ a k, ¬ s4 a k → ρ a k = σ a k := fun a k hs => (r3 a k hs).trans (f1 a k hs)
      have un : shL (fun n c => lok A ry sl st c n 0 (A 6 a)) (A 0 0) (d + 1) m = if Fc (fun c => lok A ry sl st c m 0 (A 6 a)) (A 0 0 ^ m) = 0 then shL (fun n c => lok A ry sl st c n 0 (A 6 a)) (A 0 0) d (m + 1) else m := rfl
      rw [un]
      by_cases z : Fc (fun c => lok A ry sl st c m 0 (A 6 a)) (A 0 0 ^ m) = 0
      · rw [if_pos z, z, if_pos (by decide), nI_1]
        exact ih (m + 1) q ρ (by omega) (by omega) (by omega) fr (by rw [r2.1, z])
      · rw [if_neg z, if_neg (by rw [l0]; exact nI_ge (by omega) (by omega)), if_neg (by omega)]
        exact ⟨ρ, rfl, fun _ => r2, fr⟩
  unfold fX10_shortestOf
  rw [xLet_e, hn]
  obtain ⟨ρ, r1, r2, r3⟩ := key 4 1 N (xUp σ 85 23 0) rfl (by omega) (by omega) (fun a k hs => up_c (by unfold s4 at hs; omega)) up_s
  exact ⟨ρ, r1, r2, r3⟩
end
