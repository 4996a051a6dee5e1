/-! THE REFERENCE'S TOKENS: it looks -/
theorem xLetL_e {v : Int64} {k : Int64 → Option XO} : xLetL v k = k v := rfl
def tkK (k : Nat) : Nat := if k < 4 then k else 4 + tkV (k - 4)
theorem tkS0 {x : Nat} : tkS x = 0 ↔ 97 ≤ x ∧ x ≤ 122 := by
  rcases tkS_cases x with ⟨a, b⟩ | ⟨a, b⟩ | ⟨a, b, c⟩
  · exact ⟨fun _ => b, fun _ => a⟩
  · exact ⟨fun q => by omega, fun q => by omega⟩
  · exact ⟨fun q => by omega, fun q => absurd q b⟩
theorem tkS1 {x : Nat} : tkS x = 1 ↔ 48 ≤ x ∧ x ≤ 57 := by
  rcases tkS_cases x with ⟨a, b⟩ | ⟨a, b⟩ | ⟨a, b, c⟩
  · exact ⟨fun q => by omega, fun q => by omega⟩
  · exact ⟨fun _ => b, fun _ => a⟩
  · exact ⟨fun q => by omega, fun q => absurd q c⟩
/-- verbs by numbers -/
def vbA (x : Int64) : Int32 := if x = 17171758 then 0 else if x = 180654244 then 1 else if x = 6337125 then 2 else if x = 215205 then 3 else if x = 540244 then 4 else -1
def vbB (x : Int64) : Int32 := if x = 755269 then 5 else if x = 659104884 then 6 else if x = 666444047815 then 7 else if x = 136230 then 8 else if x = 474565 then 9 else -1
def vbC (x : Int64) : Int32 := if x = 614049223 then 10 else if x = 6488991175 then 11 else if x = 707763 then 12 else if x = 3946462643 then 13 else -1
def vbF (x : Int64) : Int32 := if vbA x = -1 then (if vbB x = -1 then vbC x else vbB x) else vbA x
theorem verb_1 {N : Nat} {σ : XS} {x : Int64} : fX10_verbOf N σ x = fX10_verbOf_J61 N x (vbA x) σ := by
  unfold fX10_verbOf vbA
  simp only [lg_cmp_eq]
  by_cases h1 : x = 17171758
  · rw [if_pos h1, if_pos h1]
  rw [if_neg h1, if_neg h1]
  by_cases h2 : x = 180654244
  · rw [if_pos h2, if_pos h2]
  rw [if_neg h2, if_neg h2]
  by_cases h3 : x = 6337125
  · rw [if_pos h3, if_pos h3]
  rw [if_neg h3, if_neg h3]
  by_cases h4 : x = 215205
  · rw [if_pos h4, if_pos h4]
  rw [if_neg h4, if_neg h4]
  by_cases h5 : x = 540244
  · rw [if_pos h5, if_pos h5]
  rw [if_neg h5, if_neg h5]
theorem verb_2 {N : Nat} {σ : XS} {x : Int64} {a : Int32} : fX10_verbOf_J61 N x a σ = fX10_verbOf_J127 N x a (vbB x) σ := by
  unfold fX10_verbOf_J61 vbB
  simp only [lg_cmp_eq]
  by_cases h1 : x = 755269
  · rw [if_pos h1, if_pos h1]
  rw [if_neg h1, if_neg h1]
  by_cases h2 : x = 659104884
  · rw [if_pos h2, if_pos h2]
  rw [if_neg h2, if_neg h2]
  by_cases h3 : x = 666444047815
  · rw [if_pos h3, if_pos h3]
  rw [if_neg h3, if_neg h3]
  by_cases h4 : x = 136230
  · rw [if_pos h4, if_pos h4]
  rw [if_neg h4, if_neg h4]
  by_cases h5 : x = 474565
  · rw [if_pos h5, if_pos h5]
  rw [if_neg h5, if_neg h5]
theorem verb_3 {N : Nat} {σ : XS} {x : Int64} {a b : Int32} : fX10_verbOf_J127 N x a b σ = fX10_verbOf_J181 N a b (vbC x) σ := by
  unfold fX10_verbOf_J127 vbC
  simp only [lg_cmp_eq]
  by_cases h1 : x = 614049223
  · rw [if_pos h1, if_pos h1]
  rw [if_neg h1, if_neg h1]
  by_cases h2 : x = 6488991175
  · rw [if_pos h2, if_pos h2]
  rw [if_neg h2, if_neg h2]
  by_cases h3 : x = 707763
  · rw [if_pos h3, if_pos h3]
  rw [if_neg h3, if_neg h3]
  by_cases h4 : x = 3946462643
  · rw [if_pos h4, if_pos h4]
  rw [if_neg h4, if_neg h4]
theorem verb_e {N : Nat} {σ : XS} {x : Int64} : fX10_verbOf N σ x = some (vbF x, σ) := by
  rw [verb_1, verb_2, verb_3]
  unfold fX10_verbOf_J181 vbF
  by_cases h1 : vbA x = -1
  · rw [if_pos h1, if_pos h1]
    by_cases h2 : vbB x = -1
    · rw [if_pos h2, if_pos h2]
    · rw [if_neg h2, if_neg h2]
  · rw [if_neg h1, if_neg h1]
theorem verb_t : ∀ v, v < 14 → vbF (lN (tkH v)) = nI (tkV v) ∧ tkV v < 14 ∧ tkH v < 2 ^ 63 := by decide +kernel
theorem verb_n {h : Nat} (hh : h < 2 ^ 63) (hv : ∀ v, v < 14 → h ≠ tkH v) : vbF (lN h) = -1 := by
  have key : ∀ v, v < 14 → ¬ lN h = lN (tkH v) := fun v q z => hv v q ((pk_lEQ hh (verb_t v q).2.2).mp z)
  have k0 : ¬ lN h = 17171758 := key 0 (by decide)
  have k1 : ¬ lN h = 180654244 := key 1 (by decide)
  have k2 : ¬ lN h = 6337125 := key 2 (by decide)
  have k3 : ¬ lN h = 215205 := key 3 (by decide)
  have k4 : ¬ lN h = 659104884 := key 4 (by decide)
  have k5 : ¬ lN h = 666444047815 := key 5 (by decide)
  have k6 : ¬ lN h = 136230 := key 6 (by decide)
  have k7 : ¬ lN h = 474565 := key 7 (by decide)
  have k8 : ¬ lN h = 614049223 := key 8 (by decide)
  have k9 : ¬ lN h = 6488991175 := key 9 (by decide)
  have k10 : ¬ lN h = 3946462643 := key 10 (by decide)
  have k11 : ¬ lN h = 540244 := key 11 (by decide)
  have k12 : ¬ lN h = 755269 := key 12 (by decide)
  have k13 : ¬ lN h = 707763 := key 13 (by decide)
  have a : vbA (lN h) = -1 := by unfold vbA; rw [if_neg k0, if_neg k1, if_neg k2, if_neg k3, if_neg k11]
  have b : vbB (lN h) = -1 := by unfold vbB; rw [if_neg k12, if_neg k4, if_neg k5, if_neg k6, if_neg k7]
  have c : vbC (lN h) = -1 := by unfold vbC; rw [if_neg k8, if_neg k9, if_neg k13, if_neg k10]
  unfold vbF
  rw [a, b, c, if_pos rfl, if_pos rfl]
theorem hsS_lt {f : Nat → Nat} : ∀ n, (∀ i, i < n → f i ≤ 122) → hsS f n < 32 ^ n := by
  intro n
  induction n with
  | zero => intro _; exact Nat.one_pos
  | succ n ih =>
    intro h
    have h1 := ih (fun i hi => h i (by omega))
    have h2 := h n (by omega)
    show 32 * hsS f n + (f n - 96) < 32 ^ (n + 1)
    rw [Nat.pow_succ]
    omega
section
variable {N n : Nat} {t : Nat → Nat} {σ : XS} {S E p k x : Nat}
theorem isAt_m (h : TxM n t σ) (hp : σ 85 12 = nI p) (hn : p ≤ n) {a b : Nat} (ha : a < 2 ^ 31) (hb : b < 2 ^ 31) : fX10_isAt N σ (nI a) (nI b) = some (if p < n ∧ a ≤ t p ∧ t p ≤ b then 1 else 0, σ) := by
  obtain ⟨h1, h2, h3⟩ := h
  unfold fX10_isAt
  rw [h2, hp]
  by_cases q : p < n
  · have ht := (h3 p q).1
    rw [if_neg (nI_ge q (by omega)), xin_t (by omega) (by decide), gd_t, nI_clamp (by omega), (h3 p q).2, in_spec2 (nI a) (nI b) rfl rfl, xB_s, ite1]
    by_cases w : a ≤ t p ∧ t p ≤ b
    · rw [if_pos ⟨nI_le w.1 (by omega), nI_le w.2 hb⟩, if_pos ⟨q, w⟩]
    · rw [if_neg (fun z => w ⟨(nI_leI ha (by omega)).mp z.1, (nI_leI (by omega) hb).mp z.2⟩), if_neg (fun z => w z.2)]
  · rw [if_pos (nI_le (by omega) (by omega)), if_neg (fun z => q z.1)]
theorem isAt_sp (h : TxM n t σ) (hp : σ 85 12 = nI p) (hn : p ≤ n) : fX10_isAt N σ 32 32 = some (if p < n ∧ 32 ≤ t p ∧ t p ≤ 32 then 1 else 0, σ) := isAt_m (a := 32) (b := 32) h hp hn (by decide) (by decide)
theorem isAt_lo (h : TxM n t σ) (hp : σ 85 12 = nI p) (hn : p ≤ n) : fX10_isAt N σ 97 122 = some (if p < n ∧ 97 ≤ t p ∧ t p ≤ 122 then 1 else 0, σ) := isAt_m (a := 97) (b := 122) h hp hn (by decide) (by decide)
theorem isAt_dg (h : TxM n t σ) (hp : σ 85 12 = nI p) (hn : p ≤ n) : fX10_isAt N σ 48 57 = some (if p < n ∧ 48 ≤ t p ∧ t p ≤ 57 then 1 else 0, σ) := isAt_m (a := 48) (b := 57) h hp hn (by decide) (by decide)
theorem isAt_sc (h : TxM n t σ) (hp : σ 85 12 = nI p) (hn : p ≤ n) : fX10_isAt N σ 59 59 = some (if p < n ∧ 59 ≤ t p ∧ t p ≤ 59 then 1 else 0, σ) := isAt_m (a := 59) (b := 59) h hp hn (by decide) (by decide)
theorem skip_m {kk : XS → Option XO} (hS : S ≤ n) (hs : S < n → t S ≠ 32) : ∀ (d p m : Nat) (σ : XS), p + d = S → d < m → TxM n t σ → σ 85 12 = nI p → (∀ i, p ≤ i → i < S → t i = 32) → fX10_looks_L0 N kk m σ = kk (xUp σ 85 12 (nI S)) := by
  intro d
  induction d with
  | zero =>
    intro p m σ hp hm h h5 hb
    obtain ⟨m, rfl⟩ : ∃ q, m = q + 1 := ⟨m - 1, by omega⟩
    have e : p = S := by omega
    subst e
    have e2 : xUp σ 85 12 (nI p) = σ := by rw [← h5]; exact up_id
    rw [fX10_looks_L0, isAt_sp h h5 hS, xB_s, ite1, e2, if_neg]
    rintro ⟨q1, q2, q3⟩
    exact hs q1 (by omega)
  | succ d ih =>
    intro p m σ hp hm h h5 hb
    obtain ⟨m, rfl⟩ : ∃ q, m = q + 1 := ⟨m - 1, by omega⟩
    have e := hb p (by omega) (by omega)
    rw [fX10_looks_L0, isAt_sp h h5 (by omega), xB_s, ite1, if_pos ⟨by omega, by omega, by omega⟩, xLet_e, h5, nI_1]
    rw [ih (p + 1) m _ (by omega) (by omega) (h.eq (fun k => up_c (by omega)) (up_c (by omega))) up_s (fun i a b => hb i (by omega) b), up_up]
theorem word_L (hE : E ≤ n) (he : E < n → tkS (t E) ≠ 0) : ∀ (d p m : Nat) (v : Int64) (σ : XS), p + d = E → d < m → TxM n t σ → σ 85 12 = nI p → σ 85 13 = nI S → S ≤ p → (∀ i, p ≤ i → i < E → tkS (t i) = 0) → (p - S ≤ 8 → v = lN (hsS (fun i => t (S + i)) (p - S))) → ∃ w : Int64, (E - S ≤ 8 → w = lN (hsS (fun i => t (S + i)) (E - S))) ∧ ∀ kk : Int64 → XS → Option XO, fX10_looks_L62 N kk m v σ = kk w (xUp σ 85 12 (nI E)) := by
  intro d
  induction d with
  | zero =>
    intro p m v σ hp hm h h5 h13 hS hb hv
    obtain ⟨m, rfl⟩ : ∃ q, m = q + 1 := ⟨m - 1, by omega⟩
    have e : p = E := by omega
    subst e
    have e2 : xUp σ 85 12 (nI p) = σ := by rw [← h5]; exact up_id
    refine ⟨v, hv, fun kk => ?_⟩
    rw [fX10_looks_L62, isAt_lo h h5 hE, xB_s, ite1, e2, if_neg]
    rintro ⟨q1, q2⟩
    exact he q1 (tkS0.mpr q2)
  | succ d ih =>
    intro p m v σ hp hm h h5 h13 hS hb hv
    obtain ⟨m, rfl⟩ : ∃ q, m = q + 1 := ⟨m - 1, by omega⟩
    have hn := h.1
    have g := tkS0.mp (hb p (by omega) (by omega))
    have ht := (h.2.2 p (by omega)).2
    have hT : TxM n t (xUp σ 85 12 (nI (p + 1))) := h.eq (fun k => up_c (by omega)) (up_c (by omega))
    by_cases q : p - S ≤ 7
    · obtain ⟨w, w1, w2⟩ := ih (p + 1) m (lN (hsS (fun i => t (S + i)) (p + 1 - S))) _ (by omega) (by omega) hT up_s ((up_c (by omega)).trans h13) (by omega) (fun i a b => hb i (by omega) b) (fun _ => rfl)
      refine ⟨w, w1, fun kk => ?_⟩
      have ev : 32 * v + (nI (t p)).toInt64 - 97 + 1 = lN (hsS (fun i => t (S + i)) (p + 1 - S)) := by
        rw [hv (by omega), nI_l (by omega), show (32 : Int64) = lN 32 from rfl, show (97 : Int64) = lN 97 from rfl, lN_mul, lN_add, lN_sub (by omega), lN_1, show p + 1 - S = (p - S) + 1 by omega]
        show _ = lN (32 * hsS (fun i => t (S + i)) (p - S) + (t (S + (p - S)) - 96))
        rw [show S + (p - S) = p by omega]
        exact congrArg lN (by omega)
      rw [fX10_looks_L62, isAt_lo h h5 (by omega), xB_s, ite1, if_pos ⟨by omega, g⟩, h5, h13, pk_sub hS, show (7 : Int32) = nI 7 from rfl, if_pos (nI_le q (by decide)), xin_t (by omega) (by decide), gd_t, nI_clamp (by omega), ht, ev, xLetL_e, xLet_e, nI_1, w2, up_up]
    · obtain ⟨w, w1, w2⟩ := ih (p + 1) m 0 _ (by omega) (by omega) hT up_s ((up_c (by omega)).trans h13) (by omega) (fun i a b => hb i (by omega) b) (fun z => by omega)
      refine ⟨w, w1, fun kk => ?_⟩
      rw [fX10_looks_L62, isAt_lo h h5 (by omega), xB_s, ite1, if_pos ⟨by omega, g⟩, h5, h13, pk_sub hS, show (7 : Int32) = nI 7 from rfl, if_neg (nI_ge (by omega) (by omega)), xLet_e, nI_1, w2, up_up]
theorem digit_L (hE : E ≤ n) (he : E < n → tkS (t E) ≠ 1) : ∀ (d p m : Nat) (σ : XS), p + d = E → d < m → TxM n t σ → σ 85 12 = nI p → σ 85 13 = nI S → S ≤ p → (∀ i, p ≤ i → i < E → tkS (t i) = 1) → (p - S ≤ 2 → σ 85 15 = nI (nvS (fun i => t (S + i)) (p - S))) → ∃ τ : XS, (E - S ≤ 2 → τ 85 15 = nI (nvS (fun i => t (S + i)) (E - S))) ∧ τ 85 12 = nI E ∧ (∀ c b, ¬ (c = 85 ∧ (b = 12 ∨ b = 15)) → τ c b = σ c b) ∧ ∀ kk : XS → Option XO, fX10_looks_L180 N kk m σ = kk τ := by
  intro d
  induction d with
  | zero =>
    intro p m σ hp hm h h5 h13 hS hb hv
    obtain ⟨m, rfl⟩ : ∃ q, m = q + 1 := ⟨m - 1, by omega⟩
    have e : p = E := by omega
    subst e
    refine ⟨σ, hv, h5, fun _ _ _ => rfl, fun kk => ?_⟩
    rw [fX10_looks_L180, isAt_dg h h5 hE, xB_s, ite1, if_neg]
    rintro ⟨q1, q2⟩
    exact he q1 (tkS1.mpr q2)
  | succ d ih =>
    intro p m σ hp hm h h5 h13 hS hb hv
    obtain ⟨m, rfl⟩ : ∃ q, m = q + 1 := ⟨m - 1, by omega⟩
    have hn := h.1
    have g := tkS1.mp (hb p (by omega) (by omega))
    have ht := (h.2.2 p (by omega)).2
    have hT : ∀ v, TxM n t (xUp (xUp σ 85 15 v) 85 12 (nI (p + 1))) := fun v => h.eq (fun k => by rw [up_c (by omega), up_c (by omega)]) (by rw [up_c (by omega), up_c (by omega)])
    by_cases q : 2 ≤ p - S
    · obtain ⟨τ, w1, w2, w3, w4⟩ := ih (p + 1) m (xUp (xUp σ 85 15 (σ 85 15)) 85 12 (nI (p + 1))) (by omega) (by omega) (hT _) up_s (by rw [up_c (by omega), up_c (by omega)]; exact h13) (by omega) (fun i a b => hb i (by omega) b) (fun z => by omega)
      refine ⟨τ, w1, w2, fun c b hc => by rw [w3 c b hc, up_c (by omega), up_c (by omega)], fun kk => ?_⟩
      have e5 : xUp σ 85 15 (σ 85 15) 85 12 = nI p := by rw [up_c (by omega)]; exact h5
      rw [fX10_looks_L180, isAt_dg h h5 (by omega), xB_s, ite1, if_pos ⟨by omega, g⟩, h5, h13, pk_sub hS, l2, if_pos (nI_le q (by omega)), xLet_e, xLet_e, e5, nI_1, w4]
    · obtain ⟨τ, w1, w2, w3, w4⟩ := ih (p + 1) m (xUp (xUp σ 85 15 (nI (nvS (fun i => t (S + i)) (p + 1 - S)))) 85 12 (nI (p + 1))) (by omega) (by omega) (hT _) up_s (by rw [up_c (by omega), up_c (by omega)]; exact h13) (by omega) (fun i a b => hb i (by omega) b) (fun z => by rw [up_c (by omega), up_s])
      refine ⟨τ, w1, w2, fun c b hc => by rw [w3 c b hc, up_c (by omega), up_c (by omega)], fun kk => ?_⟩
      have ev : 10 * nI (nvS (fun i => t (S + i)) (p - S)) + nI (t p) - 48 = nI (nvS (fun i => t (S + i)) (p + 1 - S)) := by
        rw [show (10 : Int32) = nI 10 from rfl, show (48 : Int32) = nI 48 from rfl, pk_mul, nI_add, pk_sub (by omega), show p + 1 - S = (p - S) + 1 by omega]
        show _ = nI (10 * nvS (fun i => t (S + i)) (p - S) + (t (S + (p - S)) - 48))
        rw [show S + (p - S) = p by omega]
        exact congrArg nI (by omega)
      have e5 : ∀ v, xUp σ 85 15 v 85 12 = nI p := fun v => by rw [up_c (by omega)]; exact h5
      rw [fX10_looks_L180, isAt_dg h h5 (by omega), xB_s, ite1, if_pos ⟨by omega, g⟩, h5, h13, pk_sub hS, l2, if_neg (nI_ge (by omega) (by omega)), xin_t (by omega) (by decide), gd_t, nI_clamp (by omega), ht, hv (by omega), ev, xLet_e, xLet_e, e5, nI_1, w4]
/-- the reference looks at the next token -/
theorem looks_m (hN : 200 ≤ N) (h : TxM n t σ) (hp : σ 85 12 = nI p) (hT : Tk n t p S E k x) : ∃ τ, fX10_looks N σ = some (0, τ) ∧ τ 85 12 = nI E ∧ τ 85 13 = nI S ∧ τ 85 14 = nI (tkK k) ∧ (k = 2 → τ 85 15 = nI x) ∧ ∀ c b, ¬ (c = 85 ∧ 12 ≤ b ∧ b ≤ 15) → τ c b = σ c b := by
  obtain ⟨a1, a2, a3, a4, a5, a6⟩ := hT
  have hn := h.1
  obtain ⟨ρ, hρ⟩ : ∃ ρ, ρ = xUp (xUp σ 85 12 (nI S)) 85 13 (nI S) := ⟨_, rfl⟩
  have r12 : ρ 85 12 = nI S := by rw [hρ, up_c (by omega), up_s]
  have r13 : ρ 85 13 = nI S := by rw [hρ, up_s]
  have rf : ∀ c b, ¬ (c = 85 ∧ 12 ≤ b ∧ b ≤ 15) → ρ c b = σ c b := fun c b q => by rw [hρ, up_c (by omega), up_c (by omega)]
  have hR : TxM n t ρ := h.eq (fun k => rf _ _ (by omega)) (rf _ _ (by omega))
  unfold fX10_looks
  rw [skip_m (by omega) a5 (S - p) p N σ (by omega) (by omega) h hp a4, up_s, ← hρ, xLet_e, r12, hR.2.1]
  rcases a6 with ⟨b1, b2, b3⟩ | ⟨b1, b2, b3, b4⟩ | ⟨b1, b2, b3, b4⟩ | ⟨b1, b2, b4⟩
  · rw [if_pos (by rw [b1]), xLet_e]
    refine ⟨_, rfl, ?_, ?_, ?_, fun q => by omega, fun c b q => by rw [up_c (by omega)]; exact rf c b q⟩
    · rw [up_c (by omega), r12, b1, b2]
    · rw [up_c (by omega), r13]
    · rw [up_s, b3]; rfl
  · have g := tkS0.mp (b2 S (Nat.le_refl _) b1)
    obtain ⟨w, w1, w2⟩ := word_L (N := N) a3 b3 (E - S) S N 0 ρ (by omega) (by omega) hR r12 r13 (Nat.le_refl _) b2 (fun _ => by rw [Nat.sub_self]; rfl)
    have u13 : xUp ρ 85 12 (nI E) 85 13 = nI S := (up_c (by omega)).trans r13
    have fin : ∀ z, z = nI (tkK k) → ∃ τ, some ((0 : Int32), xUp (xUp ρ 85 12 (nI E)) 85 14 z) = some (0, τ) ∧ τ 85 12 = nI E ∧ τ 85 13 = nI S ∧ τ 85 14 = nI (tkK k) ∧ (k = 2 → τ 85 15 = nI x) ∧ ∀ c b, ¬ (c = 85 ∧ 12 ≤ b ∧ b ≤ 15) → τ c b = σ c b := by
      intro z hz
      refine ⟨_, rfl, ?_, ?_, ?_, fun q => ?_, fun c b q => ?_⟩
      · rw [up_c (by omega), up_s]
      · rw [up_c (by omega)]; exact u13
      · rw [up_s]; exact hz
      · rcases b4 with ⟨v, -, -, e⟩ | ⟨-, e⟩ <;> omega
      · rw [up_c (by omega), up_c (by omega)]; exact rf c b q
    rw [if_neg (by rw [nI_eq (by omega) (by omega)]; omega), isAt_lo hR r12 (by omega), xB_s, ite1, if_pos ⟨by omega, g⟩, w2, up_s, u13, pk_sub (by omega), show (8 : Int32) = nI 8 from rfl]
    by_cases q : E - S ≤ 8
    · rw [if_neg (nI_nlt q (by omega)), w1 q, verb_e, xB_s]
      rcases b4 with ⟨v, c1, c2, c3⟩ | ⟨c1, c2⟩
      · obtain ⟨d1, d2, d3⟩ := verb_t v c1
        rw [tk_hs c1 c2, d1, if_neg (by rw [show (-1 : Int32) = nI 4294967295 from rfl]; exact fun z => absurd (congrArg Int32.toInt z) (by rw [nI_toInt (by omega)]; show ¬ (tkV v : Int) = -1; omega)), verb_e, xB_s, d1, xLet_e]
        exact fin _ (by rw [l4, nI_add]; unfold tkK; rw [if_neg (by omega), show k - 4 = v by omega])
      · rw [verb_n (Nat.lt_of_lt_of_le (hsS_lt (E - S) (fun i hi => (tkS0.mp (b2 (S + i) (by omega) (by omega))).2)) (Nat.le_trans (Nat.pow_le_pow_right (by decide) q) (by decide))) (fun v hv z => c1 v hv (tkM_of hv b2 z)), if_pos rfl, xLet_e]
        exact fin _ (by rw [c2]; rfl)
    · rw [if_pos (nI_lt (by omega) (by omega)), xLet_e]
      refine fin _ ?_
      rcases b4 with ⟨v, c1, c2, c3⟩ | ⟨c1, c2⟩
      · have := c2.1
        have := tk_len v c1
        omega
      · rw [c2]; rfl
  · have g := tkS1.mp (b2 S (Nat.le_refl _) b1)
    have hR2 : TxM n t (xUp ρ 85 15 0) := hR.eq (fun k => up_c (by omega)) (up_c (by omega))
    obtain ⟨τ, w1, w2, w3, w4⟩ := digit_L (N := N) a3 b3 (E - S) S N (xUp ρ 85 15 0) (by omega) (by omega) hR2 ((up_c (by omega)).trans r12) ((up_c (by omega)).trans r13) (Nat.le_refl _) b2 (fun _ => by rw [up_s, Nat.sub_self]; rfl)
    have u13 : τ 85 13 = nI S := (w3 _ _ (by omega)).trans ((up_c (by omega)).trans r13)
    rw [if_neg (by rw [nI_eq (by omega) (by omega)]; omega), isAt_lo hR r12 (by omega), xB_s, ite1, if_neg (by omega), isAt_dg hR r12 (by omega), xB_s, ite1, if_pos ⟨by omega, g⟩, xLet_e, w4, w2, u13, pk_sub (by omega), l2]
    have fr : ∀ z c b, ¬ (c = 85 ∧ 12 ≤ b ∧ b ≤ 15) → xUp τ 85 14 z c b = σ c b := fun z c b q => by rw [up_c (by omega), w3 c b (by omega), up_c (by omega)]; exact rf c b q
    rcases b4 with ⟨c1, c2, c3⟩ | ⟨c1, c2⟩
    · rw [if_pos (nI_le c1 (by decide)), xLet_e]
      refine ⟨_, rfl, ?_, ?_, ?_, fun q => ?_, fr _⟩
      · rw [up_c (by omega)]; exact w2
      · rw [up_c (by omega)]; exact u13
      · rw [up_s, c2]; rfl
      · rw [up_c (by omega), w1 c1, c3]
    · rw [if_neg (nI_ge c1 (by omega)), xLet_e]
      refine ⟨_, rfl, ?_, ?_, ?_, fun q => by omega, fr _⟩
      · rw [up_c (by omega)]; exact w2
      · rw [up_c (by omega)]; exact u13
      · rw [up_s, c2]; rfl
  · have g : ¬ (97 ≤ t S ∧ t S ≤ 122) ∧ ¬ (48 ≤ t S ∧ t S ≤ 57) := by
      rcases tkS_cases (t S) with ⟨q, -⟩ | ⟨q, -⟩ | ⟨-, q⟩
      · omega
      · omega
      · exact q
    rw [if_neg (by rw [nI_eq (by omega) (by omega)]; omega), isAt_lo hR r12 (by omega), xB_s, ite1, if_neg (by omega), isAt_dg hR r12 (by omega), xB_s, ite1, if_neg (by omega), isAt_sc hR r12 (by omega), xB_s, ite1]
    have fr : ∀ z y c b, ¬ (c = 85 ∧ 12 ≤ b ∧ b ≤ 15) → xUp (xUp ρ 85 14 z) 85 12 y c b = σ c b := fun z y c b q => by rw [up_c (by omega), up_c (by omega)]; exact rf c b q
    have e12 : ∀ z, xUp ρ 85 14 z 85 12 = nI S := fun z => (up_c (by omega)).trans r12
    rcases b4 with ⟨c1, c2⟩ | ⟨c1, c2⟩
    · rw [if_pos ⟨by omega, by omega, by omega⟩, xLet_e, xLet_e, e12, nI_1]
      refine ⟨_, rfl, ?_, ?_, ?_, fun q => by omega, fr _ _⟩
      · rw [up_s, b1]
      · rw [up_c (by omega), up_c (by omega)]; exact r13
      · rw [up_c (by omega), up_s, c2]; rfl
    · rw [if_neg (by omega), xLet_e, xLet_e, e12, nI_1]
      refine ⟨_, rfl, ?_, ?_, ?_, fun q => by omega, fr _ _⟩
      · rw [up_s, b1]
      · rw [up_c (by omega), up_c (by omega)]; exact r13
      · rw [up_c (by omega), up_s, c2]; rfl
end
