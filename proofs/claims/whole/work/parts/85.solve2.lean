/-! WHAT A SECRET LINE CAN BE: the class goes through the lines -/
section
variable {N : Nat} {A : Nat → Nat → Nat} {σ τ : XS} {n : Nat} {l : Nat → Nat}
/-- what the class holds when it has gone through c lines -/
def CI (A : Nat → Nat → Nat) (G : Nat → Bool) (W n c : Nat) (τ : XS) : Prop :=
  τ 78 1 = nI n ∧ (∀ i, i < n → τ 79 i = nI (dg W n c i)) ∧ τ 75 8 = nI (Fc G c) ∧ τ 75 9 = nI (wbC G (fun c => ps A (dg W n c) n) (A 0 1) c) ∧
  (Fc G c = 0 → τ 80 1 = nI 0 ∧ τ 82 1 = nI 0) ∧ (0 < Fc G c → τ 80 1 = nI n ∧ τ 82 1 = nI n ∧ ∀ i, i < n → τ 81 i = nI (dg W n (fst G c) i) ∧ τ 83 i = shS G (dg W n) c i)
def sc (a k : Nat) : Prop := a = 78 ∨ a = 79 ∨ a = 80 ∨ a = 81 ∨ a = 82 ∨ a = 83 ∨ (a = 75 ∧ (k = 8 ∨ k = 9))
theorem take_c (hN : 10 ≤ N) {G : Nat → Bool} {W c : Nat} (hn : n ≤ 3) (h : CLn A τ 78 n (dg W n c)) (h6 : τ 75 6 = nI n) (hI : CI A G W n c τ) (hg : G c = true) (hc : c < 1000) :
    ∃ ρ, fX5_take N τ = some (0, ρ) ∧ (∀ i, i < n → ρ 79 i = τ 79 i) ∧ ρ 78 1 = nI n ∧ ρ 75 8 = nI (Fc G (c + 1)) ∧ ρ 75 9 = nI (wbC G (fun c => ps A (dg W n c) n) (A 0 1) (c + 1)) ∧
      (ρ 80 1 = nI n ∧ ρ 82 1 = nI n ∧ ∀ i, i < n → ρ 81 i = nI (dg W n (fst G (c + 1)) i) ∧ ρ 83 i = shS G (dg W n) (c + 1) i) ∧ ∀ a k, ¬ sc a k → ρ a k = τ a k := by
  obtain ⟨i1, i2, i3, i4, i5, i6⟩ := hI
  have fle := Fc_le (G := G) c
  have a3 := h.2.1.2.1
  have wlt := wbC_lt (G := G) (P := fun c => ps A (dg W n c) n) (a := A 0 1) (by omega) c
  have dl : ∀ i, i < n → dg W n c i < A 0 0 := fun i hi => (h.2.2.2.2 i hi).1
  have eF : Fc G (c + 1) = Fc G c + 1 := by show (if G c = true then _ else _) = _; rw [if_pos hg]
  have eW : wbC G (fun c => ps A (dg W n c) n) (A 0 1) (c + 1) = wbS (ps A (dg W n c) n) (A 0 1) 0 (wbC G (fun c => ps A (dg W n c) n) (A 0 1) c) := by
    show (if G c = true then _ else _) = _; rw [if_pos hg]
  -- behind the copies
  have go : ∀ μ : XS, (∀ a k, ¬ sc a k → μ a k = τ a k) → μ 78 1 = nI n → (∀ i, i < n → μ 79 i = τ 79 i) → μ 75 8 = τ 75 8 → μ 75 9 = τ 75 9 → μ 80 1 = nI n → μ 82 1 = nI n → (∀ i, i < n → μ 81 i = nI (dg W n (fst G (c + 1)) i)) → (∀ i, i < n → (if μ 83 i = nI (dg W n c i) then nI (dg W n c i) else -1) = shS G (dg W n) (c + 1) i) →
      ∃ ρ, fX5_take_J29 N μ = some (0, ρ) ∧ (∀ i, i < n → ρ 79 i = τ 79 i) ∧ ρ 78 1 = nI n ∧ ρ 75 8 = nI (Fc G (c + 1)) ∧ ρ 75 9 = nI (wbC G (fun c => ps A (dg W n c) n) (A 0 1) (c + 1)) ∧
      (ρ 80 1 = nI n ∧ ρ 82 1 = nI n ∧ ∀ i, i < n → ρ 81 i = nI (dg W n (fst G (c + 1)) i) ∧ ρ 83 i = shS G (dg W n) (c + 1) i) ∧ ∀ a k, ¬ sc a k → ρ a k = τ a k := by
    intro μ m1 m2 m3 m4 m5 m6 m7 m8 m9
    unfold fX5_take_J29
    rw [xLet_e, m4, i3, nI_1, ← eF]
    obtain ⟨ν, n1, n2, n3⟩ := share_c (N := N) (σ := xUp μ 75 8 (nI (Fc G (c + 1)))) (l := dg W n c) (k := fun m6 => fX5_take_J91 N m6) hN hn (by rw [up_c (by omega), m1 _ _ (by unfold sc; omega), h6]) (fun i hi => by rw [up_c (by omega), m3 i hi, i2 i hi])
    have fr : ∀ a k, ¬ sc a k → ν a k = τ a k := fun a k hs => by
      rw [n3 a k (by unfold sc at hs; omega), up_c (by unfold sc at hs; omega), m1 a k hs]
    have hC : CLn A ν 78 n (dg W n c) := ⟨h.1.eq (fun a k g1 g2 => fr a k (by unfold sc; omega)), h.2.1, by rw [n3 _ _ (by omega), up_c (by omega), m2], h.2.2.2.1, fun i hi => ⟨dl i hi, by rw [n3 _ _ (by omega), up_c (by omega), m3 i hi, i2 i hi]⟩⟩
    rw [n1, wares_c hN hC wlt (by rw [n3 _ _ (by omega), up_c (by omega), m5, i4]), ← eW]
    refine ⟨_, rfl, fun i hi => ?_, ?_, ?_, up_s, ⟨?_, ?_, fun i hi => ⟨?_, ?_⟩⟩, fun a k hs => ?_⟩
    · rw [up_c (by omega), n3 _ _ (by omega), up_c (by omega), m3 i hi]
    · rw [up_c (by omega), n3 _ _ (by omega), up_c (by omega), m2]
    · rw [up_c (by omega), n3 _ _ (by omega), up_s]
    · rw [up_c (by omega), n3 _ _ (by omega), up_c (by omega), m6]
    · rw [up_c (by omega), n3 _ _ (by omega), up_c (by omega), m7]
    · rw [up_c (by omega), n3 _ _ (by omega), up_c (by omega), m8 i hi]
    · rw [up_c (by omega), n2 i hi, up_c (by omega)]
      exact m9 i hi
    · rw [up_c (by unfold sc at hs; omega)]
      exact fr a k hs
  unfold fX5_take
  rw [i3, isz (by omega)]
  by_cases z : Fc G c = 0
  · rw [if_pos z]
    have cp : ∀ ρ : XS, fX4_copy N ρ 80 78 = some (0, xUp (xUf ρ 81 (va_cpy (ρ 79) (ρ 81) (0 : Int32).toNatClampNeg (0 : Int32).toNatClampNeg (6 : Int32).toNatClampNeg)) 80 1 (ρ 78 1)) := by
      intro ρ
      unfold fX4_copy
      rw [xLet_e, xLet_e, uf_c (by omega)]
    have cp2 : ∀ ρ : XS, fX4_copy N ρ 82 78 = some (0, xUp (xUf ρ 83 (va_cpy (ρ 79) (ρ 83) (0 : Int32).toNatClampNeg (0 : Int32).toNatClampNeg (6 : Int32).toNatClampNeg)) 82 1 (ρ 78 1)) := by
      intro ρ
      unfold fX4_copy
      rw [xLet_e, xLet_e, uf_c (by omega)]
    rw [cp, xB_s, cp2, xB_s]
    have f1 : fst G (c + 1) = c := by show (if G c = true ∧ Fc G c = 0 then c else _) = c; rw [if_pos ⟨hg, z⟩]
    have s1 : ∀ i, shS G (dg W n) (c + 1) i = nI (dg W n c i) := fun i => by show (if G c = true then _ else _) = _; rw [if_pos hg, if_pos z]
    refine go _ (fun a k hs => ?_) ?_ (fun i hi => ?_) ?_ ?_ ?_ ?_ (fun i hi => ?_) (fun i hi => ?_)
    · unfold sc at hs
      rw [up_c (by omega), uf_c (by omega), up_c (by omega), uf_c (by omega)]
    · rw [up_c (by omega), uf_c (by omega), up_c (by omega), uf_c (by omega), i1]
    · rw [up_c (by omega), uf_c (by omega), up_c (by omega), uf_c (by omega)]
    · rw [up_c (by omega), uf_c (by omega), up_c (by omega), uf_c (by omega)]
    · rw [up_c (by omega), uf_c (by omega), up_c (by omega), uf_c (by omega)]
    · rw [up_c (by omega), uf_c (by omega), up_s, i1]
    · rw [up_s, up_c (by omega), uf_c (by omega), i1]
    · rw [up_c (by omega), uf_c (by omega), up_c (by omega), uf_s, cpy6 (by omega), f1, i2 i hi]
    · rw [up_c (by omega), uf_s, cpy6 (by omega), up_c (by omega), uf_c (by omega), i2 i hi, if_pos rfl, s1]
  · rw [if_neg z]
    obtain ⟨j1, j2, j3⟩ := i6 (by omega)
    have f1 : fst G (c + 1) = fst G c := by show (if G c = true ∧ Fc G c = 0 then c else _) = _; rw [if_neg (fun q => z q.2)]
    have s1 : ∀ i, shS G (dg W n) (c + 1) i = if shS G (dg W n) c i = nI (dg W n c i) then nI (dg W n c i) else -1 := fun i => by show (if G c = true then _ else _) = _; rw [if_pos hg, if_neg z]
    exact go τ (fun _ _ _ => rfl) i1 (fun _ _ => rfl) rfl rfl j1 j2 (fun i hi => by rw [f1]; exact (j3 i hi).1) (fun i hi => by rw [s1, (j3 i hi).2])
/-- gone through all -/
theorem solve_c (hN : 1000 ≤ N) {s m : Nat} {cl nu : Nat → Nat} (hC : TC A σ) (hW : TW A) (s1 : 1 ≤ s) (s3 : s ≤ 3) (h6 : σ 75 6 = nI s) (m6 : m ≤ 6) (h7 : σ 75 7 = nI m) (hc : ∀ i, i < m → cl i < A 0 2 ∧ nu i ≤ 24 ∧ σ 76 i = nI (cl i) ∧ σ 77 i = nI (nu i)) :
    ∃ τ, fX5_solve N σ = some (0, τ) ∧ CI A (fun c => agS A cl nu (dg (A 0 0) s c) s m 0) (A 0 0) s (A 0 0 ^ s) τ ∧ ∀ a k, ¬ sc a k → τ a k = σ a k := by
  have w9 := hW.1
  have hpow : A 0 0 ^ s ≤ 729 := by
    have e1 : A 0 0 ^ s ≤ 9 ^ s := Nat.pow_le_pow_left w9 s
    have e2 : 9 ^ s ≤ 9 ^ 3 := Nat.pow_le_pow_right (by decide) s3
    have e3 : 9 ^ 3 = 729 := rfl
    omega
  generalize hG : (fun c => agS A cl nu (dg (A 0 0) s c) s m 0) = G
  -- the loop
  have key : ∀ (d c q : Nat) (τ : XS), c + d = A 0 0 ^ s → d < q → (∀ a k, ¬ sc a k → τ a k = σ a k) → CI A G (A 0 0) s c τ → ∃ ρ, fX5_solve_L73 N (nI (A 0 0 ^ s)) (fun m33 => some (0, m33)) q (nI c) τ = some (0, ρ) ∧ CI A G (A 0 0) s (A 0 0 ^ s) ρ ∧ ∀ a k, ¬ sc a k → ρ a k = σ a k := by
    intro d
    induction d with
    | zero =>
      intro c q τ hd hq f1 f2
      obtain ⟨q, rfl⟩ : ∃ r, q = r + 1 := ⟨q - 1, by omega⟩
      rw [fX5_solve_L73, if_pos (nI_le (by omega) (by omega))]
      rw [show c = A 0 0 ^ s by omega] at f2
      exact ⟨τ, rfl, f2, f1⟩
    | succ d ih =>
      intro c q τ hd hq f1 f2
      obtain ⟨q, rfl⟩ : ∃ r, q = r + 1 := ⟨q - 1, by omega⟩
      have hW0 : 0 < A 0 0 := by
        rcases Nat.eq_zero_or_pos (A 0 0) with e | e
        · rw [e, Nat.zero_pow (by omega)] at hd; omega
        · exact e
      have hL : CLn A τ 78 s (dg (A 0 0) s c) := ⟨hC.eq (fun a k g1 g2 => f1 a k (by unfold sc; omega)), hW, f2.1, by omega, fun i hi => ⟨dg_lt hW0, f2.2.1 i hi⟩⟩
      have e6 : τ 75 6 = nI s := (f1 _ _ (by unfold sc; omega)).trans h6
      have ag := agrees_c (N := N) (cl := cl) (nu := nu) (by omega) hL m6 ((f1 _ _ (by unfold sc; omega)).trans h7) (fun i hi => by
        obtain ⟨q1, q2, q3, q4⟩ := hc i hi
        exact ⟨q1, q2, (f1 _ _ (by unfold sc; omega)).trans q3, (f1 _ _ (by unfold sc; omega)).trans q4⟩)
      have hGc : agS A cl nu (dg (A 0 0) s c) s m 0 = G c := by rw [← hG]
      rw [hGc] at ag
      rw [fX5_solve_L73, if_neg (nI_ge (by omega) (by omega)), ag, xB_s, b2i0]
      by_cases g : G c = true
      · rw [if_pos g]
        obtain ⟨ρ, t1, t2, t3, t4, t5, ⟨t6, t7, t8⟩, t9⟩ := take_c (N := N) (by omega) s3 hL e6 f2 g (by omega)
        obtain ⟨ν, v1, v2, v3⟩ := move_c (N := N) (n := s) (c := c) (by omega) hW0 (by omega) s3 ((t9 _ _ (by unfold sc; omega)).trans e6) ((t9 _ _ (by unfold sc; omega)).trans hL.1.1) (fun i hi => (t2 i hi).trans (f2.2.1 i hi))
        have eF : 0 < Fc G (c + 1) := by show 0 < (if G c = true then _ else _); rw [if_pos g]; exact Nat.succ_pos _
        rw [t1, xB_s, v1, xB_s, nI_1]
        refine ih (c + 1) q ν (by omega) (by omega) (fun a k hs => ?_) ⟨(v3 _ _ (by omega)).trans t3, v2, (v3 _ _ (by omega)).trans t4, (v3 _ _ (by omega)).trans t5, fun e => by omega, fun _ => ⟨(v3 _ _ (by omega)).trans t6, (v3 _ _ (by omega)).trans t7, fun i hi => ⟨(v3 _ _ (by omega)).trans (t8 i hi).1, (v3 _ _ (by omega)).trans (t8 i hi).2⟩⟩⟩
        rw [v3 a k (by unfold sc at hs; omega), t9 a k hs]
        exact f1 a k hs
      · rw [if_neg g]
        obtain ⟨ν, v1, v2, v3⟩ := move_c (N := N) (n := s) (c := c) (by omega) hW0 (by omega) s3 e6 hL.1.1 f2.2.1
        have eF : Fc G (c + 1) = Fc G c := by show (if G c = true then _ else _) = _; rw [if_neg g]
        have eW : wbC G (fun c => ps A (dg (A 0 0) s c) s) (A 0 1) (c + 1) = wbC G (fun c => ps A (dg (A 0 0) s c) s) (A 0 1) c := by show (if G c = true then _ else _) = _; rw [if_neg g]
        have e1 : fst G (c + 1) = fst G c := by show (if G c = true ∧ Fc G c = 0 then c else _) = _; rw [if_neg (fun q => g q.1)]
        have e2 : ∀ i, shS G (dg (A 0 0) s) (c + 1) i = shS G (dg (A 0 0) s) c i := fun i => by show (if G c = true then _ else _) = _; rw [if_neg g]
        obtain ⟨i1, i2, i3, i4, i5, i6⟩ := f2
        rw [v1, xB_s, nI_1]
        refine ih (c + 1) q ν (by omega) (by omega) (fun a k hs => ?_) ⟨(v3 _ _ (by omega)).trans i1, v2, by rw [eF]; exact (v3 _ _ (by omega)).trans i3, by rw [eW]; exact (v3 _ _ (by omega)).trans i4, fun e => by rw [eF] at e; exact ⟨(v3 _ _ (by omega)).trans (i5 e).1, (v3 _ _ (by omega)).trans (i5 e).2⟩, fun e => by
          rw [eF] at e
          obtain ⟨q1, q2, q3⟩ := i6 e
          exact ⟨(v3 _ _ (by omega)).trans q1, (v3 _ _ (by omega)).trans q2, fun i hi => by rw [e1, e2]; exact ⟨(v3 _ _ (by omega)).trans (q3 i hi).1, (v3 _ _ (by omega)).trans (q3 i hi).2⟩⟩⟩
        rw [v3 a k (by unfold sc at hs; omega)]
        exact f1 a k hs
  -- the first line, of first words
  have add0 : ∀ (d i q : Nat) (τ : XS) (k : XS → Option XO), i + d = s → d < q → (∀ a k, ¬ sc a k → τ a k = σ a k) → τ 78 1 = nI i → (∀ j, j < i → τ 79 j = nI 0) → ∃ ρ, fX5_solve_L36 N k q (nI i) τ = k ρ ∧ ρ 78 1 = nI s ∧ (∀ j, j < s → ρ 79 j = nI 0) ∧ ∀ a k, a ≠ 78 → a ≠ 79 → ρ a k = τ a k := by
    intro d
    induction d with
    | zero =>
      intro i q τ k hi hq f1 f2 f3
      obtain ⟨q, rfl⟩ : ∃ r, q = r + 1 := ⟨q - 1, by omega⟩
      rw [fX5_solve_L36, f1 75 6 (by unfold sc; omega), h6, if_pos (nI_le (by omega) (by omega))]
      exact ⟨τ, rfl, by rw [f2, show i = s by omega], fun j hj => f3 j (by omega), fun _ _ _ _ => rfl⟩
    | succ d ih =>
      intro i q τ k hi hq f1 f2 f3
      obtain ⟨q, rfl⟩ : ∃ r, q = r + 1 := ⟨q - 1, by omega⟩
      have ad : fX4_add N τ 78 0 = some (nI (i + 1), xUp (xUp τ 79 i 0) 78 1 (nI (i + 1))) := by
        unfold fX4_add
        rw [f2, l6, if_neg (nI_ge (by omega) (by omega)), xin_t (by omega) (by decide), xLet_e, gd_t, xLet_e, nI_clamp (by omega), up_s, up_c (by omega), f2, nI_1]
      rw [fX5_solve_L36, f1 75 6 (by unfold sc; omega), h6, if_neg (nI_ge (by omega) (by omega)), ad, xB_s, nI_1]
      obtain ⟨ρ, r1, r2, r3, r4⟩ := ih (i + 1) q (xUp (xUp τ 79 i 0) 78 1 (nI (i + 1))) k (by omega) (by omega) (fun a k hs => by unfold sc at hs; rw [up_c (by omega), up_c (by omega)]; exact f1 a k hs) up_s (fun j hj => by
        rw [up_c (by omega)]
        by_cases e : j = i
        · subst e; rw [up_s]; rfl
        · rw [up_c (by omega)]; exact f3 j (by omega))
      exact ⟨ρ, r1, r2, r3, fun a k g1 g2 => by rw [r4 a k g1 g2, up_c (by omega), up_c (by omega)]⟩
  unfold fX5_solve
  have clr : ∀ (τ : XS) (L : Nat), fX4_clear N τ L = some (τ L 1, xUp τ L 1 0) := fun τ L => by unfold fX4_clear; rw [xLet_e]
  rw [xLet_e, xLet_e, clr, xB_s, clr, xB_s, clr, xB_s]
  generalize hτ : xUp (xUp (xUp (xUp (xUp σ 75 8 0) 75 9 0) 80 1 0) 82 1 0) 78 1 0 = τ0
  have t0 : ∀ a k, ¬ sc a k → τ0 a k = σ a k := fun a k hs => by
    unfold sc at hs
    rw [← hτ, up_c (by omega), up_c (by omega), up_c (by omega), up_c (by omega), up_c (by omega)]
  obtain ⟨ρ, r1, r2, r3, r4⟩ := add0 s 0 N τ0 (fun m17 => xB (fX8_linesOf N m17 (m17 75 6)) (fun y18 m19 => fX5_solve_L73 N y18 (fun m33 => some (0, m33)) N 0 m19)) (by omega) (by omega) t0 (by rw [← hτ, up_s]; rfl) (fun j hj => by omega)
  have fr : ∀ a k, ¬ sc a k → ρ a k = σ a k := fun a k hs => by rw [r4 a k (by unfold sc at hs; omega) (by unfold sc at hs; omega)]; exact t0 a k hs
  rw [show (0 : Int32) = nI 0 from rfl] at r1 ⊢
  rw [r1, (fr 75 6 (by unfold sc; omega)).trans h6, linesOf_c (by omega) ((fr 1 9 (by unfold sc; omega)).trans hC.1) (by omega), xB_s]
  refine key (A 0 0 ^ s) 0 N ρ (by omega) (by omega) fr ⟨r2, fun i hi => by rw [r3 i hi, dg_0], ?_, ?_, fun _ => ⟨?_, ?_⟩, fun e => absurd e (by show ¬ 0 < 0; omega)⟩
  · rw [r4 _ _ (by omega) (by omega), ← hτ, up_c (by omega), up_c (by omega), up_c (by omega), up_c (by omega), up_s]; rfl
  · rw [r4 _ _ (by omega) (by omega), ← hτ, up_c (by omega), up_c (by omega), up_c (by omega), up_s]; rfl
  · rw [r4 _ _ (by omega) (by omega), ← hτ, up_c (by omega), up_c (by omega), up_s]; rfl
  · rw [r4 _ _ (by omega) (by omega), ← hτ, up_c (by omega), up_s]; rfl
end
