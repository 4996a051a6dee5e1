/-! WHAT A SECRET LINE CAN BE: the reference; CANBE, CANBEWORD -/
section
variable {N : Nat} {A : Nat → Nat → Nat} {σ τ : XS} {n : Nat} {l cl nu : Nat → Nat}
theorem keeps_m (hN : 10 ≤ N) {F : Nat} (hn : n ≤ 6) (hF : F < 2 ^ 31) (h : σ 85 23 = nI F) : ∃ τ, fX10_keepsFirst N σ (nI n) = some (0, τ) ∧ τ 85 23 = nI (F + 1) ∧ (∀ i, i < n → τ 95 i = if F = 0 then σ 94 i else σ 95 i) ∧ ∀ a k, a ≠ 95 → (a ≠ 85 ∨ k ≠ 23) → τ a k = σ a k := by
  have key : ∀ (d i m : Nat) (ρ : XS), i + d = n → d < m → (∀ a k, a ≠ 95 → ρ a k = σ a k) → (∀ j, j < i → ρ 95 j = if F = 0 then σ 94 j else σ 95 j) → (∀ j, i ≤ j → ρ 95 j = σ 95 j) → ∃ τ, fX10_keepsFirst_L2 N (nI n) (fun m4 => xLet (xUp m4 85 23 ((m4 85 23) + 1)) (fun m5 => some (0, m5))) m (nI i) ρ = some (0, τ) ∧ τ 85 23 = nI (F + 1) ∧ (∀ i, i < n → τ 95 i = if F = 0 then σ 94 i else σ 95 i) ∧ ∀ a k, a ≠ 95 → (a ≠ 85 ∨ k ≠ 23) → τ a k = σ a k := by
    intro d
    induction d with
    | zero =>
      intro i m ρ hi hm f1 f2 f3
      obtain ⟨m, rfl⟩ : ∃ q, m = q + 1 := ⟨m - 1, by omega⟩
      rw [fX10_keepsFirst_L2, if_pos (nI_le (by omega) (by omega)), xLet_e, f1 _ _ (by omega), h, nI_1]
      exact ⟨_, rfl, up_s, fun j hj => by rw [up_c (by omega)]; exact f2 j (by omega), fun a k g1 g2 => by rw [up_c (by omega)]; exact f1 a k g1⟩
    | succ d ih =>
      intro i m ρ hi hm f1 f2 f3
      obtain ⟨m, rfl⟩ : ∃ q, m = q + 1 := ⟨m - 1, by omega⟩
      rw [fX10_keepsFirst_L2, if_neg (nI_ge (by omega) (by omega)), f1 85 23 (by omega), h, isz hF]
      by_cases z : F = 0
      · rw [if_pos z, xin_t (by omega) (by decide), gd_t, xLet_e, gd_t, nI_clamp (by omega), f1 94 i (by omega), nI_1]
        refine ih (i + 1) m _ (by omega) (by omega) (fun a k ha => by rw [up_c (by omega)]; exact f1 a k ha) (fun j hj => ?_) (fun j hj => by rw [up_c (by omega)]; exact f3 j (by omega))
        by_cases e : j = i
        · subst e
          rw [up_s, if_pos z]
        · rw [up_c (by omega)]
          exact f2 j (by omega)
      · rw [if_neg z, xLet_e, nI_1]
        refine ⟨_, rfl, up_s, fun j hj => ?_, fun a k g1 g2 => by rw [up_c (by omega)]; exact f1 a k g1⟩
        rw [up_c (by omega), if_neg z]
        by_cases e : j < i
        · rw [f2 j e, if_neg z]
        · exact f3 j (by omega)
  exact key n 0 N σ (by omega) (by omega) (fun _ _ _ => rfl) (fun j hj => by omega) (fun _ _ => rfl)
theorem agrees_m (hN : 10 ≤ N) (h : MLn A σ 94 n l) {m : Nat} (hm : m ≤ 6) (hs : σ 85 8 = nI m) (hc : ∀ i, i < m → cl i < A 0 2 ∧ nu i ≤ 24 ∧ σ 91 (2 * i) = nI (cl i) ∧ σ 91 (2 * i + 1) = nI (nu i)) {v2 v3 : Int32} {k : Int32 → XS → Option XO} : fX10_goesThrough_L40 N (nI n) v2 v3 k N 1 0 σ = k (b2i (agS A cl nu l n m 0)) σ := by
  have hl : ∀ i, i < n → l i < A 0 0 := fun i hi => (h.2.2.2.2 i hi).1
  obtain ⟨y1, y2, y3⟩ := sylS_le h.2.1 n hl
  have n6 := h.2.2.1
  have n7 := h.2.2.2.1
  have c3 := h.2.1.2.2.1
  have zero : ∀ (d i q : Nat), i + d = m → d < q → fX10_goesThrough_L40 N (nI n) v2 v3 k q 0 (nI i) σ = k 0 σ := by
    intro d
    induction d with
    | zero =>
      intro i q hi hq
      obtain ⟨q, rfl⟩ : ∃ r, q = r + 1 := ⟨q - 1, by omega⟩
      rw [fX10_goesThrough_L40, hs, if_pos (nI_le (by omega) (by omega))]
    | succ d ih =>
      intro i q hi hq
      obtain ⟨q, rfl⟩ : ∃ r, q = r + 1 := ⟨q - 1, by omega⟩
      rw [fX10_goesThrough_L40, hs, if_neg (nI_ge (by omega) (by omega)), if_pos rfl, nI_1]
      exact ih (i + 1) q (by omega) (by omega)
  have key : ∀ (d i q : Nat), i + d = m → d < q → fX10_goesThrough_L40 N (nI n) v2 v3 k q 1 (nI i) σ = k (b2i (agS A cl nu l n d i)) σ := by
    intro d
    induction d with
    | zero =>
      intro i q hi hq
      obtain ⟨q, rfl⟩ : ∃ r, q = r + 1 := ⟨q - 1, by omega⟩
      rw [fX10_goesThrough_L40, hs, if_pos (nI_le (by omega) (by omega))]; rfl
    | succ d ih =>
      intro i q hi hq
      obtain ⟨q, rfl⟩ : ∃ r, q = r + 1 := ⟨q - 1, by omega⟩
      obtain ⟨c1', c2', c3', c4'⟩ := hc i (by omega)
      have kb := (h.2.1.2.2.2.2.2.2.2.1 _ c1')
      have ek := h.1.2.2.2.2.2.2.2.1 _ c1'
      have cb : cntS A (A 8 (cl i)) l n ≤ sylS A l n := by
        unfold cntS
        by_cases z : A 8 (cl i) = 1
        · rw [if_pos z]; omega
        · rw [if_neg z]; exact Nat.le_refl _
      rw [fX10_goesThrough_L40, hs, if_neg (nI_ge (by omega) (by omega)), if_neg (by decide), l2, pk_mul, xin_t (by omega) (by decide), gd_t, nI_clamp (by omega), c3', show (64 : Int32) = nI 64 from rfl, nI_add, xin_t (by omega) (by decide), gd_t, nI_clamp (by omega), ek, counted_m hN h (by omega), xB_s, l1, nI_add, nI_add, xin_t (by omega) (by decide), gd_t, nI_clamp (by omega), c4']
      show _ = k (b2i (decide (nu i = cntS A (A 8 (cl i)) l n) && agS A cl nu l n d (i + 1))) σ
      by_cases e : nu i = cntS A (A 8 (cl i)) l n
      · rw [if_pos (by rw [e]), decide_eq_true e, Bool.true_and]
        exact ih (i + 1) q (by omega) (by omega)
      · rw [if_neg (by rw [nI_eq (by omega) (by omega)]; exact fun q => e q.symm), decide_eq_false e, Bool.false_and]
        exact zero d (i + 1) q (by omega) (by omega)
  exact key m 0 N (by omega) (by omega)
theorem share_m (hN : 10 ≤ N) {F : Nat} (hn : n ≤ 3) (hF : F < 2 ^ 31) (h1 : σ 85 23 = nI F) (h3 : ∀ i, i < n → σ 94 i = nI (l i)) {v2 v3 : Int32} {k : XS → Option XO} : ∃ τ, fX10_goesThrough_L115 N (nI n) v2 v3 k N 0 σ = k τ ∧ (∀ i, i < n → τ 97 i = if F = 0 then nI (l i) else if σ 97 i = nI (l i) then nI (l i) else -1) ∧ ∀ a k, a ≠ 97 → τ a k = σ a k := by
  have key : ∀ (d i m : Nat) (ρ : XS), i + d = n → d < m → (∀ a k, a ≠ 97 → ρ a k = σ a k) → (∀ j, i ≤ j → ρ 97 j = σ 97 j) → (∀ j, j < i → ρ 97 j = if F = 0 then nI (l j) else if σ 97 j = nI (l j) then nI (l j) else -1) → ∃ τ, fX10_goesThrough_L115 N (nI n) v2 v3 k m (nI i) ρ = k τ ∧ (∀ i, i < n → τ 97 i = if F = 0 then nI (l i) else if σ 97 i = nI (l i) then nI (l i) else -1) ∧ ∀ a k, a ≠ 97 → τ a k = σ a k := by
    intro d
    induction d with
    | zero =>
      intro i m ρ hi hm f1 f2 f3
      obtain ⟨m, rfl⟩ : ∃ q, m = q + 1 := ⟨m - 1, by omega⟩
      rw [fX10_goesThrough_L115, if_pos (nI_le (by omega) (by omega))]
      exact ⟨ρ, rfl, fun j hj => f3 j (by omega), f1⟩
    | succ d ih =>
      intro i m ρ hi hm f1 f2 f3
      obtain ⟨m, rfl⟩ : ∃ q, m = q + 1 := ⟨m - 1, by omega⟩
      have go : ∀ v : Int32, v = (if F = 0 then nI (l i) else if σ 97 i = nI (l i) then nI (l i) else -1) → ∃ τ, fX10_goesThrough_L115 N (nI n) v2 v3 k m (nI (i + 1)) (xUp ρ 97 i v) = k τ ∧ (∀ i, i < n → τ 97 i = if F = 0 then nI (l i) else if σ 97 i = nI (l i) then nI (l i) else -1) ∧ ∀ a k, a ≠ 97 → τ a k = σ a k := by
        intro v hv
        refine ih (i + 1) m _ (by omega) (by omega) (fun a k ha => by rw [up_c (by omega)]; exact f1 a k ha) (fun j hj => by rw [up_c (by omega)]; exact f2 j (by omega)) (fun j hj => ?_)
        by_cases e : j = i
        · subst e
          rw [up_s, hv]
        · rw [up_c (by omega)]
          exact f3 j (by omega)
      rw [fX10_goesThrough_L115, if_neg (nI_ge (by omega) (by omega)), f1 85 23 (by omega), h1, isz hF, xin_t (n := 6) (by omega) (by decide), xin_t (n := 3) (by omega) (by decide), gd_t, gd_t, gd_t, nI_clamp (by omega), f1 94 i (by omega), h3 i (by omega), f2 i (by omega), nI_1]
      by_cases z : F = 0
      · rw [if_pos z, xLet_e, gd_t]
        exact go _ (by rw [if_pos z])
      · rw [if_neg z]
        by_cases q : σ 97 i = nI (l i)
        · rw [if_pos q, xLet_e, gd_t]
          exact go _ (by rw [if_neg z, if_pos q])
        · rw [if_neg q, xLet_e, gd_t]
          exact go _ (by rw [if_neg z, if_neg q])
  exact key n 0 N σ (by omega) (by omega) (fun _ _ _ => rfl) (fun _ _ => rfl) (fun j hj => by omega)
theorem wares_m (hN : 10 ≤ N) (h : MLn A σ 94 n l) {b : Nat} (hb : b < 64) (h9 : σ 85 26 = nI b) {v2 v3 : Int32} {k : XS → Option XO} : fX10_goesThrough_L177 N (nI n) v2 v3 k N 0 σ = k (xUp σ 85 26 (nI (wbS (ps A l n) (A 0 1) 0 b))) := by
  have a1 := h.1.2.1
  have a3 := h.2.1.2.1
  have c1' := h.1.2.2.1
  have c3 := h.2.1.2.2.1
  have hid : xUp σ 85 26 (nI b) = σ := by rw [← h9]; exact up_id
  have key : ∀ (d i m b : Nat), i + d = A 0 1 → d < m → b < 64 → fX10_goesThrough_L177 N (nI n) v2 v3 k m (nI i) (xUp σ 85 26 (nI b)) = k (xUp σ 85 26 (nI (wbS (ps A l n) d i b))) := by
    intro d
    induction d with
    | zero =>
      intro i m b hi hm hb
      obtain ⟨m, rfl⟩ : ∃ q, m = q + 1 := ⟨m - 1, by omega⟩
      rw [fX10_goesThrough_L177, xin198, gd_t, c1, up_c (by omega), a1, if_pos (nI_le (by omega) (by omega))]; rfl
    | succ d ih =>
      intro i m b hi hm hb
      obtain ⟨m, rfl⟩ : ∃ q, m = q + 1 := ⟨m - 1, by omega⟩
      obtain ⟨b1, b2, b3⟩ := bit6 b hb i (by omega)
      rw [fX10_goesThrough_L177, xin198, gd_t, c1, up_c (by omega), a1, if_neg (nI_ge (by omega) (by omega)), xin298, gd_t, c2, up_c (by omega), c1']
      by_cases z : 0 < A 0 2
      · have hp : ps A l n i = passS A l n i (A 8 0) := by unfold ps; rw [decide_eq_true z, Bool.true_and]
        have st : wbS (ps A l n) (d + 1) i b = wbS (ps A l n) d (i + 1) (if passS A l n i (A 8 0) = true then b ||| 2 ^ i else b) := by
          show wbS (ps A l n) d (i + 1) (if ps A l n i = true then b ||| 2 ^ i else b) = _
          rw [hp]
        have hM : MLn A (xUp σ 85 26 (nI b)) 94 n l := ⟨h.1.eqL h.2.1 (fun k _ => up_c (by omega)), h.2.1, h.2.2.1, h.2.2.2.1, fun j hj => ⟨(h.2.2.2.2 j hj).1, by rw [up_c (by omega)]; exact (h.2.2.2.2 j hj).2⟩⟩
        rw [if_neg (by rw [l0]; exact nI_ge z (by omega)), show (0 : Int32) = nI 0 from rfl, passed_m hN hM (show i < A 0 1 by omega) z, xB_s, ← l0, b2i0, st]
        by_cases p : passS A l n i (A 8 0) = true
        · rw [if_pos p, if_pos p, xLet_e, up_s, b1, up_up, nI_1]
          exact ih (i + 1) m _ (by omega) (by omega) b2
        · rw [if_neg p, if_neg p, xLet_e, up_s, or0, up_up, nI_1]
          exact ih (i + 1) m b (by omega) (by omega) hb
      · rw [if_pos (by rw [l0]; exact nI_le (by omega) (by omega)), wbS_f (fun i => by unfold ps; rw [decide_eq_false z]; rfl)]
  have := key (A 0 1) 0 N b (by omega) (by omega) hb
  rw [hid] at this
  exact this
/-- what the reference holds when it has gone through c lines -/
def MI (A : Nat → Nat → Nat) (G : Nat → Bool) (W n c : Nat) (τ : XS) : Prop :=
  τ 85 23 = nI (Fc G c) ∧ τ 85 26 = nI (wbC G (fun c => ps A (dg W n c) n) (A 0 1) c) ∧ (0 < Fc G c → ∀ i, i < n → τ 95 i = nI (dg W n (fst G c) i) ∧ τ 97 i = shS G (dg W n) c i)
def sm (a k : Nat) : Prop := a = 94 ∨ a = 95 ∨ a = 97 ∨ (a = 85 ∧ (k = 23 ∨ k = 26))
theorem goes_m (hN : 1000 ≤ N) {s m : Nat} (hM : TM A (σ 86)) (hW : TW A) (s1 : 1 ≤ s) (s3 : s ≤ 3) (h6 : σ 85 9 = nI s) (m6 : m ≤ 6) (h7 : σ 85 8 = nI m) (hc : ∀ i, i < m → cl i < A 0 2 ∧ nu i ≤ 24 ∧ σ 91 (2 * i) = nI (cl i) ∧ σ 91 (2 * i + 1) = nI (nu i)) :
    ∃ τ, fX10_goesThrough N σ = some (0, τ) ∧ MI A (fun c => agS A cl nu (dg (A 0 0) s c) s m 0) (A 0 0) s (A 0 0 ^ s) τ ∧ ∀ a k, ¬ sm a k → τ a k = σ a k := by
  have w9 := hW.1
  have a6 := hW.2.1
  have hpow : A 0 0 ^ s ≤ 729 := by
    have e1 : A 0 0 ^ s ≤ 9 ^ s := Nat.pow_le_pow_left w9 s
    have e2 : 9 ^ s ≤ 9 ^ 3 := Nat.pow_le_pow_right (by decide) s3
    have e3 : 9 ^ 3 = 729 := rfl
    omega
  generalize hG : (fun c => agS A cl nu (dg (A 0 0) s c) s m 0) = G
  have key : ∀ (d c q : Nat) (τ : XS), c + d = A 0 0 ^ s → d < q → (∀ a k, ¬ sm a k → τ a k = σ a k) → MI A G (A 0 0) s c τ → ∃ ρ, fX10_goesThrough_L23 N (nI s) (nI (A 0 0 ^ s)) (fun m37 => some (0, m37)) q (nI c) τ = some (0, ρ) ∧ MI A G (A 0 0) s (A 0 0 ^ s) ρ ∧ ∀ a k, ¬ sm a k → ρ a k = σ a k := by
    intro d
    induction d with
    | zero =>
      intro c q τ hd hq f1 f2
      obtain ⟨q, rfl⟩ : ∃ r, q = r + 1 := ⟨q - 1, by omega⟩
      rw [fX10_goesThrough_L23, if_pos (nI_le (by omega) (by omega))]
      rw [show c = A 0 0 ^ s by omega] at f2
      exact ⟨τ, rfl, f2, f1⟩
    | succ d ih =>
      intro c q τ hd hq f1 f2
      obtain ⟨q, rfl⟩ : ∃ r, q = r + 1 := ⟨q - 1, by omega⟩
      have hW0 : 0 < A 0 0 := by
        rcases Nat.eq_zero_or_pos (A 0 0) with e | e
        · rw [e, Nat.zero_pow (by omega)] at hd; omega
        · exact e
      have fle := Fc_le (G := G) c
      have wlt := wbC_lt (G := G) (P := fun c => ps A (dg (A 0 0) s c) s) (a := A 0 1) (by omega) c
      have e86 : ∀ ρ : XS, (∀ a k, ¬ sm a k → ρ a k = σ a k) → (∀ i, i < s → ρ 94 i = nI (dg (A 0 0) s c i)) → MLn A ρ 94 s (dg (A 0 0) s c) := fun ρ h1 h2 => ⟨hM.eqL hW (fun k _ => h1 _ _ (by unfold sm; omega)), hW, by show s ≤ 6; omega, by decide, fun i hi => ⟨dg_lt hW0, h2 i hi⟩⟩
      obtain ⟨ν, v1, v2, v3⟩ := lays_m (N := N) (σ := τ) (W := A 0 0) (n := s) (c := c) (by omega) ((f1 _ _ (by unfold sm; omega)).trans hM.1) hW0 (by omega) (by omega) (by omega)
      have n1 : ∀ a k, ¬ sm a k → ν a k = σ a k := fun a k hs => by rw [v3 a k (by unfold sm at hs; omega)]; exact f1 a k hs
      have hL := e86 ν n1 v2
      rw [fX10_goesThrough_L23, if_neg (nI_ge (by omega) (by omega)), v1, xB_s, agrees_m (by omega) hL m6 ((n1 _ _ (by unfold sm; omega)).trans h7) (fun i hi => by
        obtain ⟨q1, q2, q3, q4⟩ := hc i hi
        exact ⟨q1, q2, (n1 _ _ (by unfold sm; omega)).trans q3, (n1 _ _ (by unfold sm; omega)).trans q4⟩)]
      have hGc : agS A cl nu (dg (A 0 0) s c) s m 0 = G c := by rw [← hG]
      obtain ⟨i1, i2, i3⟩ := f2
      rw [hGc, b2i0]
      by_cases g : G c = true
      · have eF : Fc G (c + 1) = Fc G c + 1 := by show (if G c = true then _ else _) = _; rw [if_pos g]
        have eW : wbC G (fun c => ps A (dg (A 0 0) s c) s) (A 0 1) (c + 1) = wbS (ps A (dg (A 0 0) s c) s) (A 0 1) 0 (wbC G (fun c => ps A (dg (A 0 0) s c) s) (A 0 1) c) := by
          show (if G c = true then _ else _) = _; rw [if_pos g]
        rw [if_pos g]
        obtain ⟨ρ, r1, r2, r3⟩ := share_m (N := N) (σ := ν) (n := s) (l := dg (A 0 0) s c) (F := Fc G c) (by omega) s3 (by omega) ((v3 _ _ (by omega)).trans i1) v2 (v2 := nI (A 0 0 ^ s)) (v3 := nI c) (k := fun m25 => xB (fX10_keepsFirst N m25 (nI s)) (fun _ m27 => fX10_goesThrough_L177 N (nI s) (nI (A 0 0 ^ s)) (nI c) (fun m36 => fX10_goesThrough_L23 N (nI s) (nI (A 0 0 ^ s)) (fun m37 => some (0, m37)) q (nI c + 1) m36) N 0 m27))
        rw [r1]
        obtain ⟨μ, m1, m2, m3, m4⟩ := keeps_m (N := N) (σ := ρ) (n := s) (F := Fc G c) (by omega) (by omega) (by omega) (by rw [r3 _ _ (by omega), v3 _ _ (by omega)]; exact i1)
        have m94 : ∀ i, i < s → μ 94 i = nI (dg (A 0 0) s c i) := fun i hi => by rw [m4 _ _ (by omega) (by omega), r3 _ _ (by omega)]; exact v2 i hi
        have n3 : ∀ a k, ¬ sm a k → μ a k = σ a k := fun a k hs => by rw [m4 a k (by unfold sm at hs; omega) (by unfold sm at hs; omega), r3 a k (by unfold sm at hs; omega)]; exact n1 a k hs
        rw [m1, xB_s, wares_m (by omega) (e86 μ n3 m94) wlt (by rw [m4 _ _ (by omega) (by omega), r3 _ _ (by omega), v3 _ _ (by omega)]; exact i2), nI_1, ← eW]
        refine ih (c + 1) q _ (by omega) (by omega) (fun a k hs => by rw [up_c (by unfold sm at hs; omega)]; exact n3 a k hs) ⟨by rw [up_c (by omega), m2, eF], up_s, fun _ i hi => ⟨?_, ?_⟩⟩
        · rw [up_c (by omega), m3 i hi]
          show _ = nI (dg (A 0 0) s (if G c = true ∧ Fc G c = 0 then c else fst G c) i)
          by_cases z : Fc G c = 0
          · rw [if_pos z, if_pos ⟨g, z⟩, r3 _ _ (by omega)]
            exact v2 i hi
          · rw [if_neg z, if_neg (fun q => z q.2), r3 _ _ (by omega), v3 _ _ (by omega)]
            exact (i3 (by omega) i hi).1
        · rw [up_c (by omega), m4 _ _ (by omega) (by omega), r2 i hi]
          show _ = (if G c = true then (if Fc G c = 0 then nI (dg (A 0 0) s c i) else if shS G (dg (A 0 0) s) c i = nI (dg (A 0 0) s c i) then nI (dg (A 0 0) s c i) else -1) else shS G (dg (A 0 0) s) c i)
          rw [if_pos g]
          by_cases z : Fc G c = 0
          · rw [if_pos z, if_pos z]
          · rw [if_neg z, if_neg z, v3 _ _ (by omega), (i3 (by omega) i hi).2]
      · have eF : Fc G (c + 1) = Fc G c := by show (if G c = true then _ else _) = _; rw [if_neg g]
        have eW : wbC G (fun c => ps A (dg (A 0 0) s c) s) (A 0 1) (c + 1) = wbC G (fun c => ps A (dg (A 0 0) s c) s) (A 0 1) c := by show (if G c = true then _ else _) = _; rw [if_neg g]
        have e1 : fst G (c + 1) = fst G c := by show (if G c = true ∧ Fc G c = 0 then c else _) = _; rw [if_neg (fun q => g q.1)]
        have e2 : ∀ i, shS G (dg (A 0 0) s) (c + 1) i = shS G (dg (A 0 0) s) c i := fun i => by show (if G c = true then _ else _) = _; rw [if_neg g]
        rw [if_neg g, nI_1]
        refine ih (c + 1) q ν (by omega) (by omega) n1 ⟨by rw [eF]; exact (v3 _ _ (by omega)).trans i1, by rw [eW]; exact (v3 _ _ (by omega)).trans i2, fun e i hi => ?_⟩
        rw [eF] at e
        rw [e1, e2]
        exact ⟨(v3 _ _ (by omega)).trans (i3 e i hi).1, (v3 _ _ (by omega)).trans (i3 e i hi).2⟩
  unfold fX10_goesThrough
  have t0 : ∀ a k, ¬ sm a k → (xUp (xUp σ 85 23 0) 85 26 0) a k = σ a k := fun a k hs => by
    unfold sm at hs
    rw [up_c (by omega), up_c (by omega)]
  rw [xLet_e, xLet_e, t0 85 9 (by unfold sm; omega), h6, ways_m (by omega) ((t0 86 0 (by unfold sm; omega)).trans hM.1) (by omega), xB_s]
  exact key (A 0 0 ^ s) 0 N _ (by omega) (by omega) t0 ⟨by rw [up_c (by omega), up_s]; rfl, up_s, fun e => absurd e (by show ¬ 0 < 0; omega)⟩
theorem kp_sc (h : ∀ a k, ¬ sc a k → τ a k = σ a k) : Kp σ τ := by
  intro a k q
  refine h a k (fun hs => ?_)
  rcases hs with rfl | rfl | rfl | rfl | rfl | rfl | ⟨rfl, rfl | rfl⟩ <;> exact absurd (q.symm.trans (show lv _ _ = false from rfl)) (by decide)
theorem kp_sm (h : ∀ a k, ¬ sm a k → τ a k = σ a k) : Kp σ τ := by
  intro a k q
  refine h a k (fun hs => ?_)
  rcases hs with rfl | rfl | rfl | ⟨rfl, rfl | rfl⟩ <;> exact absurd (q.symm.trans (show lv _ _ = false from rfl)) (by decide)
/-- both have gone through -/
theorem both_m (hN : 1000 ≤ N) (h : RA A σ) {s : Nat} (s0 : σ 75 6 = nI s) (s1 : 1 ≤ s) (s3 : s ≤ 3) : ∃ (G : Nat → Bool) (τ ρ : XS), fX5_solve N σ = some (0, τ) ∧ fX10_goesThrough N τ = some (0, ρ) ∧ CI A G (A 0 0) s (A 0 0 ^ s) τ ∧ MI A G (A 0 0) s (A 0 0 ^ s) ρ ∧ (∀ a k, ¬ sc a k → τ a k = σ a k) ∧ ∀ a k, ¬ sm a k → ρ a k = τ a k := by
  obtain ⟨h1, h2, h3, h4, h5, h6, hz, s', m, cl, nu, e1, e2, e3, e4, e5, e6, e7⟩ := id h
  have es : s' = s := by
    rw [e3] at s0
    exact (nI_eq (by omega) (by omega)).mp s0
  subst es
  obtain ⟨τ, t1, t2, t3⟩ := solve_c (cl := cl) (nu := nu) hN h2 h1 s1 s3 e3 e2 e5 (fun i hi => ⟨(e7 i hi).1, (e7 i hi).2.1, (e7 i hi).2.2.1, (e7 i hi).2.2.2.1⟩)
  have fr : ∀ a k, ¬ sc a k → τ a k = σ a k := t3
  obtain ⟨ρ, r1, r2, r3⟩ := goes_m (σ := τ) (cl := cl) (nu := nu) hN (h.tm.eqL h1 (fun k _ => fr _ _ (by unfold sc; omega))) h1 s1 s3 ((fr _ _ (by unfold sc; omega)).trans e4) e2 ((fr _ _ (by unfold sc; omega)).trans e6) (fun i hi => ⟨(e7 i hi).1, (e7 i hi).2.1, (fr _ _ (by unfold sc; omega)).trans (e7 i hi).2.2.2.2.1, (fr _ _ (by unfold sc; omega)).trans (e7 i hi).2.2.2.2.2⟩)
  exact ⟨_, τ, ρ, t1, r1, t2, r2, t3, r3⟩
end
