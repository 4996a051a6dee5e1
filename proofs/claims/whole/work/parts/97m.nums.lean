/-! A CLAUSE'S NUMBERS, on both sides at once -/
def LkM (σ : XS) (S E k x : Nat) : Prop := σ 85 12 = nI E ∧ σ 85 13 = nI S ∧ σ 85 14 = nI (tkK k) ∧ (k = 2 → σ 85 15 = nI x)
def FCn (i : Nat) (σ τ : XS) : Prop := ∀ c b, ¬ (c = 11 ∧ (b = 5 ∨ b = 6)) → c ≠ 15 + i → τ c b = σ c b
def FMn (i : Nat) (σ τ : XS) : Prop := ∀ c b, ¬ (c = 85 ∧ 12 ≤ b ∧ b ≤ 15) → ¬ (c = 93 ∧ 4 * i < b ∧ b < 4 * i + 4) → τ c b = σ c b
theorem tkK_t : ∀ k, k < 18 → tkK k < 18 ∧ (tkK k = 2 ↔ k = 2) ∧ (tkK k = 3 ↔ k = 3) ∧ (tkK k = 0 ↔ k = 0) ∧ (k < 4 → tkK k < 4) := by decide +kernel
theorem tk_k {n : Nat} {t : Nat → Nat} {p S E k x : Nat} (hT : Tk n t p S E k x) : k < 18 := by
  obtain ⟨-, -, -, -, -, ⟨-, -, e⟩ | ⟨-, -, -, ⟨v, a, -, e⟩ | ⟨-, e⟩⟩ | ⟨-, -, -, ⟨-, e, -⟩ | ⟨-, e⟩⟩ | ⟨-, -, ⟨-, e⟩ | ⟨-, e⟩⟩⟩ := hT <;> omega
theorem nvS_lt {f : Nat → Nat} : ∀ n, (∀ i, i < n → f i ≤ 57) → nvS f n < 10 ^ n := by
  intro n
  induction n with
  | zero => intro _; exact Nat.one_pos
  | succ n ih =>
    intro h
    have h1 := ih (fun i hi => h i (by omega))
    have h2 := h n (by omega)
    show 10 * nvS f n + (f n - 48) < 10 ^ (n + 1)
    rw [Nat.pow_succ]
    omega
theorem tk_x {n : Nat} {t : Nat → Nat} {p S E k x : Nat} (hT : Tk n t p S E k x) (hk : k = 2) : x < 100 := by
  obtain ⟨-, -, -, -, -, ⟨-, -, e⟩ | ⟨-, -, -, ⟨v, a, -, e⟩ | ⟨-, e⟩⟩ | ⟨-, b2, -, ⟨c1, -, e⟩ | ⟨-, e⟩⟩ | ⟨-, -, ⟨-, e⟩ | ⟨-, e⟩⟩⟩ := hT
  · omega
  · omega
  · omega
  · rw [e]
    exact Nat.lt_of_lt_of_le (nvS_lt (E - S) (fun i hi => (tkS1.mp (b2 (S + i) (by omega) (by omega))).2)) (Nat.le_trans (Nat.pow_le_pow_right (by decide) c1) (by decide))
  · omega
  · omega
  · omega
theorem clB0 {v y : Nat} : clB v 0 y ≤ 12 := by
  unfold clB
  repeat' split
  all_goals omega
section
variable {N n : Nat} {t : Nat → Nat} {σ ρ φ : XS} {S E p k x i v j q : Nat} {xs : Nat → Nat}
theorem nums_c (hN : 200 ≤ N) (hi : i < 14) (hv : v < 14) (hj : j < clN v) (h : TxC n t σ) (h6 : σ 11 6 = nI q) (hx : ∀ a, a < j → σ (15 + i) a = nI (xs a)) (hT : Tk n t q S E k x) (h0 : 0 < j → xs 0 ≤ 99) {k0 k1 : XS → Option XO} {m : Nat} : fX7_readClause_L47 N (nI i) (clR v) k0 k1 (m + 1) (nI j) σ = if k = 2 ∧ clA v j ≤ x ∧ x ≤ clB v j (xs 0) then fX7_readClause_L47 N (nI i) (clR v) k0 k1 m (nI (j + 1)) (xUp (xUp (xUp σ 11 5 (nI S)) 11 6 (nI E)) (15 + i) j (nI x)) else k0 (xUp (xUp σ 11 5 (nI S)) 11 6 (nI E)) := by
  obtain ⟨s1, s2, s3⟩ := cl_str v hv
  have hn3 := clN_le (v := v)
  obtain ⟨g1, g2⟩ := cl_low v hv j hj
  have x03 : xin 0 3 = true := rfl
  have hT1 : TxC n t (xUp (xUp σ 11 5 (nI S)) 11 6 (nI E)) := h.eq (fun k => by rw [up_c (by omega), up_c (by omega)]) (by rw [up_c (by omega), up_c (by omega)])
  have e5 : xUp (xUp σ 11 5 (nI S)) 11 6 (nI E) 11 5 = nI S := by rw [up_c (by omega), up_s]
  have e6 : xUp (xUp σ 11 5 (nI S)) 11 6 (nI E) 11 6 = nI E := up_s
  rw [fX7_readClause_L47, gd_e (decide_eq_true s3), s1, if_neg (nI_ge hj (by omega)), l3, if_neg (nI_ge (by omega) (by omega)), gd_e (by rw [s2, xin_t hj (by omega), Bool.and_true]; exact decide_eq_true s3), goOn_c hN h h6 hT, xB_s, number_c hN hT1 e5 e6 hT, xB_s, lowest_c, xB_s, g1]
  by_cases hk : k = 2
  · have hx2 := tk_x hT hk
    rw [if_pos hk]
    by_cases q1 : clA v j ≤ x
    · have hp : j = 1 → xUp (xUp σ 11 5 (nI S)) 11 6 (nI E) (15 + i) 0 = nI (xs 0) := fun z => by rw [up_c (by omega), up_c (by omega)]; exact hx 0 (by omega)
      have hB : clB v j (xs 0) ≤ 99 := by
        by_cases z : 0 < j
        · exact clB_le (h0 z)
        · rw [show j = 0 by omega]
          exact Nat.le_trans clB0 (by omega)
      rw [if_neg (nI_nlt q1 (by omega)), xin_t hi (by omega), gd_t, x03, gd_t, highest_c, xB_s, nI_clamp (by omega), c0, cl_high hv hj hp]
      by_cases q2 : x ≤ clB v j (xs 0)
      · rw [if_pos (nI_le q2 (by omega)), gd_t, xLet_e, nI_clamp (by omega), xin_t (by omega) (by omega), gd_t, nI_1, if_pos ⟨hk, q1, q2⟩]
      · rw [if_neg (nI_ge (by omega) (by omega)), if_neg (fun z => q2 z.2.2)]
    · rw [if_pos (nI_lt (by omega) (by omega)), if_neg (fun z => q1 z.2.1)]
  · rw [if_neg hk, if_pos (by rcases (show clA v j = 0 ∨ clA v j = 1 by omega) with z | z <;> rw [z] <;> decide), if_neg (fun z => hk z.1)]
theorem nums_j (hi : i < 14) (hv : v < 14) (hj : j < clN v) (hk : k < 18) (hx : k = 2 → x < 100) (hL : LkM ρ S E k x) (h17 : ρ 85 17 = nI i) {t0 : Int32} (h0 : v < 3 ∧ j = 1 → t0 = nI (xs 0)) (hB : clB v j (xs 0) ≤ 99) (hl : k = 2 → fX10_looks N (xUp ρ 93 (4 * i + 1 + j) (nI x)) = some (0, φ)) {kn : Int32 → XS → Option XO} {k0 : XS → Option XO} : fX10_reads_J118 N (nI (tkV v)) (nI j) t0 kn k0 ρ = if k = 2 ∧ clA v j ≤ x ∧ x ≤ clB v j (xs 0) then kn (nI (j + 1)) φ else k0 ρ := by
  obtain ⟨b1, b2, b3, b4⟩ := hL
  obtain ⟨c1, c2, -⟩ := tkK_t k hk
  have hn3 := clN_le (v := v)
  obtain ⟨g1, g2⟩ := cl_low v hv j hj
  have eh : (if v < 3 ∧ j = 1 then t0 else nI (clB v j 0)) = nI (clB v j (xs 0)) := by
    by_cases z : v < 3 ∧ j = 1
    · rw [if_pos z, h0 z]
      unfold clB
      rw [if_pos z.1, if_neg (by omega), if_pos z.2]
    · rw [if_neg z, clB_e (y := xs 0) z]
  unfold fX10_reads_J118
  rw [b3, l2]
  by_cases q : k = 2
  · have hx2 := hx q
    rw [if_pos (by rw [c2.mpr q]), low_m hv hj, xB_s, high_m hv hj, xB_s, eh, b4 q, in_spec2 (nI (clA v j)) (nI (clB v j (xs 0))) rfl rfl, xB_s, ite1]
    by_cases w : clA v j ≤ x ∧ x ≤ clB v j (xs 0)
    · rw [if_pos ⟨nI_le w.1 (by omega), nI_le w.2 (by omega)⟩, if_pos ⟨q, w⟩, h17, b4 q, l4, l1, pk_mul, nI_add, nI_add, xLet_e, nI_clamp (by omega), xin_t (by omega) (by omega), gd_t, hl q, xB_s, nI_add]
    · rw [if_neg (fun z => w ⟨(nI_leI (by omega) (by omega)).mp z.1, (nI_leI (by omega) (by omega)).mp z.2⟩), if_neg (fun z => w z.2)]
  · rw [if_neg (by rw [nI_eq (by omega) (by omega)]; exact fun z => q (c2.mp z)), if_neg (fun z => q z.1)]
end
section
variable {N n : Nat} {t : Nat → Nat}
theorem nums_cm (hN : 200 ≤ N) {i v : Nat} (hi : i < 14) (hv : v < 14) : ∀ (d j q : Nat) (xs : Nat → Nat) (σ ρ : XS) (m m' : Nat), j + d = clN v → d < m → d < m' → q ≤ n → TxC n t σ → σ 11 6 = nI q → (∀ a, a < j → σ (15 + i) a = nI (xs a)) → TxM n t ρ → (∃ S E k x, Tk n t q S E k x ∧ LkM ρ S E k x) → ρ 85 17 = nI i → (∀ a, a < j → ρ 93 (4 * i + 1 + a) = nI (xs a)) → (∀ a, a < j → clA v a ≤ xs a ∧ xs a ≤ clB v a (xs 0)) →
    (∃ (S : Nat) (τ φ : XS), S ≤ n ∧ τ 11 5 = nI S ∧ φ 85 13 = nI S ∧ FCn i σ τ ∧ FMn i ρ φ ∧ (∀ k0 k1, fX7_readClause_L47 N (nI i) (clR v) k0 k1 m (nI j) σ = k0 τ) ∧ ∀ k0 k1, fX10_reads_L89 N (nI (tkV v)) k0 k1 m' (nI j) ρ = k0 φ) ∨
    ∃ (q : Nat) (xs : Nat → Nat) (τ φ : XS), q ≤ n ∧ τ 11 6 = nI q ∧ (∀ a, a < clN v → τ (15 + i) a = nI (xs a)) ∧ (∃ S E k x, Tk n t q S E k x ∧ LkM φ S E k x) ∧ (∀ a, a < clN v → φ 93 (4 * i + 1 + a) = nI (xs a)) ∧ (∀ a, a < clN v → clA v a ≤ xs a ∧ xs a ≤ clB v a (xs 0)) ∧ FCn i σ τ ∧ FMn i ρ φ ∧ (∀ k0 k1, fX7_readClause_L47 N (nI i) (clR v) k0 k1 m (nI j) σ = k1 τ) ∧ ∀ k0 k1, fX10_reads_L89 N (nI (tkV v)) k0 k1 m' (nI j) ρ = k1 φ := by
  have hn3 := clN_le (v := v)
  obtain ⟨s1, s2, s3⟩ := cl_str v hv
  intro d
  induction d with
  | zero =>
    intro j q xs σ ρ m m' hd hm hm' hq hC h6 hx hM hT h17 hy hb
    obtain ⟨m, rfl⟩ : ∃ z, m = z + 1 := ⟨m - 1, by omega⟩
    obtain ⟨m', rfl⟩ : ∃ z, m' = z + 1 := ⟨m' - 1, by omega⟩
    have ej : j = clN v := by omega
    subst ej
    refine Or.inr ⟨q, xs, σ, ρ, hq, h6, hx, hT, hy, hb, fun _ _ _ _ => rfl, fun _ _ _ _ => rfl, fun k0 k1 => ?_, fun k0 k1 => ?_⟩
    · rw [fX7_readClause_L47, gd_e (decide_eq_true s3), s1, if_pos (nI_le (Nat.le_refl _) (by omega))]
    · rw [fX10_reads_L89, numbers_m hv, xB_s, if_pos (nI_le (Nat.le_refl _) (by omega))]
  | succ d ih =>
    intro j q xs σ ρ m m' hd hm hm' hq hC h6 hx hM hT h17 hy hb
    obtain ⟨m, rfl⟩ : ∃ z, m = z + 1 := ⟨m - 1, by omega⟩
    obtain ⟨m', rfl⟩ : ∃ z, m' = z + 1 := ⟨m' - 1, by omega⟩
    obtain ⟨S, E, k, x, T1, T2⟩ := hT
    have hn := hC.1
    have hE : E ≤ n := T1.2.2.1
    have hk := tk_k T1
    have h0 : 0 < j → xs 0 ≤ 99 := fun z => Nat.le_trans (hb 0 z).2 (Nat.le_trans clB0 (by omega))
    have hB : clB v j (xs 0) ≤ 99 := by
      by_cases z : 0 < j
      · exact clB_le (h0 z)
      · rw [show j = 0 by omega]
        exact Nat.le_trans clB0 (by omega)
    obtain ⟨S', E', k', x', T'⟩ := tk_ex (t := t) hE
    have hM' : TxM n t (xUp ρ 93 (4 * i + 1 + j) (nI x)) := hM.eq (fun k => up_c (by omega)) (up_c (by omega))
    obtain ⟨φ, f1, f2, f3, f4, f5, f6⟩ := looks_m hN hM' ((up_c (by omega)).trans T2.1) T'
    have eM : ∀ k0 k1, fX10_reads_L89 N (nI (tkV v)) k0 k1 (m' + 1) (nI j) ρ = if k = 2 ∧ clA v j ≤ x ∧ x ≤ clB v j (xs 0) then fX10_reads_L89 N (nI (tkV v)) k0 k1 m' (nI (j + 1)) φ else k0 ρ := by
      intro k0 k1
      rw [fX10_reads_L89, numbers_m hv, xB_s, if_neg (nI_ge (by omega) (by omega)), isz (by omega)]
      by_cases z : j = 0
      · rw [if_pos z]
        exact nums_j hi hv (by omega) hk (tk_x T1) T2 h17 (fun w => by omega) hB (fun _ => f1)
      · rw [if_neg z, h17, l4, pk_mul, nI_add, xin_t (by omega) (by omega), gd_t, nI_clamp (by omega)]
        exact nums_j hi hv (by omega) hk (tk_x T1) T2 h17 (fun w => by rw [show 4 * i + j = 4 * i + 1 + 0 by omega]; exact hy 0 (by omega)) hB (fun _ => f1)
    by_cases w : k = 2 ∧ clA v j ≤ x ∧ x ≤ clB v j (xs 0)
    · have hC' : TxC n t (xUp (xUp (xUp σ 11 5 (nI S)) 11 6 (nI E)) (15 + i) j (nI x)) := hC.eq (fun k => by rw [up_c (by omega), up_c (by omega), up_c (by omega)]) (by rw [up_c (by omega), up_c (by omega), up_c (by omega)])
      have fc : FCn i σ (xUp (xUp (xUp σ 11 5 (nI S)) 11 6 (nI E)) (15 + i) j (nI x)) := fun c b z1 z2 => by rw [up_c (by omega), up_c (by omega), up_c (by omega)]
      have fm : FMn i ρ φ := fun c b z1 z2 => by rw [f6 c b z1, up_c (by omega)]
      have hM2 : TxM n t φ := hM.eq (fun k => fm _ _ (by omega) (by omega)) (fm _ _ (by omega) (by omega))
      have x0 : (if 0 = j then x else xs 0) = (if 0 = j then x else xs 0) := rfl
      have ey : ∀ a, a < j + 1 → clA v a ≤ (if a = j then x else xs a) ∧ (if a = j then x else xs a) ≤ clB v a (if 0 = j then x else xs 0) := by
        intro a ha
        by_cases z : a = j
        · rw [if_pos z, z]
          refine ⟨w.2.1, ?_⟩
          by_cases z0 : 0 = j
          · rw [if_pos z0, ← z0, clB_e (by omega)]
            have := w.2.2
            rw [← z0, clB_e (by omega)] at this
            exact this
          · rw [if_neg z0]; exact w.2.2
        · rw [if_neg z, if_neg (by omega)]
          exact hb a (by omega)
      have ha1 : ∀ a, a < j + 1 → xUp (xUp (xUp σ 11 5 (nI S)) 11 6 (nI E)) (15 + i) j (nI x) (15 + i) a = nI (if a = j then x else xs a) := by
        intro a ha
        by_cases z : a = j
        · rw [z, up_s, if_pos rfl]
        · rw [up_c (by omega), up_c (by omega), up_c (by omega), if_neg z]
          exact hx a (by omega)
      have ha2 : ∀ a, a < j + 1 → φ 93 (4 * i + 1 + a) = nI (if a = j then x else xs a) := by
        intro a ha
        by_cases z : a = j
        · rw [z, f6 _ _ (by omega), up_s, if_pos rfl]
        · rw [f6 _ _ (by omega), up_c (by omega), if_neg z]
          exact hy a (by omega)
      rcases ih (j + 1) E (fun a => if a = j then x else xs a) _ φ m m' (by omega) (by omega) (by omega) hE hC' ((up_c (by omega)).trans up_s) ha1 hM2 ⟨S', E', k', x', T', f2, f3, f4, f5⟩ ((fm _ _ (by omega) (by omega)).trans h17) ha2 ey with ⟨S2, τ, φ2, r0, r1, r2, r3, r4, r5, r6⟩ | ⟨q2, xs2, τ, φ2, r1, r2, r3, r4, r5, r6, r7, r8, r9, r10⟩
      · left
        refine ⟨S2, τ, φ2, r0, r1, r2, fun c b z1 z2 => (r3 c b z1 z2).trans (fc c b z1 z2), fun c b z1 z2 => (r4 c b z1 z2).trans (fm c b z1 z2), fun k0 k1 => ?_, fun k0 k1 => ?_⟩
        · rw [nums_c hN hi hv (by omega) hC h6 hx T1 h0, if_pos w]; exact r5 k0 k1
        · rw [eM, if_pos w]; exact r6 k0 k1
      · right
        refine ⟨q2, xs2, τ, φ2, r1, r2, r3, r4, r5, r6, fun c b z1 z2 => (r7 c b z1 z2).trans (fc c b z1 z2), fun c b z1 z2 => (r8 c b z1 z2).trans (fm c b z1 z2), fun k0 k1 => ?_, fun k0 k1 => ?_⟩
        · rw [nums_c hN hi hv (by omega) hC h6 hx T1 h0, if_pos w]; exact r9 k0 k1
        · rw [eM, if_pos w]; exact r10 k0 k1
    · left
      refine ⟨S, xUp (xUp σ 11 5 (nI S)) 11 6 (nI E), ρ, Nat.le_trans T1.2.1 hE, ?_, T2.2.1, ?_, fun _ _ _ _ => rfl, fun k0 k1 => ?_, fun k0 k1 => ?_⟩
      · rw [up_c (by omega), up_s]
      · intro c b z1 z2
        rw [up_c (by omega), up_c (by omega)]
      · rw [nums_c hN hi hv (by omega) hC h6 hx T1 h0, if_neg w]
      · rw [eM, if_neg w]
end
