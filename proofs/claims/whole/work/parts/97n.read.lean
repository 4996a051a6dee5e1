/-! READING ALL CLAUSES, on both sides at once -/
/-- a clause's deed: what texts told behind it -/
def stA (q : Nat × (Nat → Nat)) (A : Nat → Nat → Nat) : Nat → Nat → Nat := fun f k =>
  if q.1 < 4 then (if f = 0 ∧ k = 0 then A 0 0 + 1 else if f = 1 ∧ k = A 0 0 then q.1 else if f = 2 ∧ k = A 0 0 then q.2 0 else if f = 3 ∧ k = A 0 0 then (if q.1 = 3 then 1 else q.2 1) else if f = 4 ∧ k = A 0 0 then (if q.1 = 3 then q.2 1 else q.2 2) else A f k)
  else if q.1 < 7 then (if f = 0 ∧ k = 2 then A 0 2 + 1 else if f = 8 ∧ k = A 0 2 then q.1 - 4 else A f k)
  else if q.1 < 10 then (if f = 0 ∧ k = 3 then q.1 - 7 else A f k)
  else if q.1 = 10 then (if f = 0 ∨ f = 5 then 0 else if f = 9 then 3 else A f k)
  else if q.1 = 11 then (if f = 5 ∧ k = q.2 0 then q.2 1 else A f k)
  else if q.1 = 12 then (if f = 0 ∧ k = 1 then A 0 1 + 1 else if f = 6 ∧ k = A 0 1 then q.2 0 else if f = 7 ∧ k = A 0 1 then q.2 1 else A f k)
  else if f = 9 ∧ k = q.2 0 then q.2 1 else A f k
theorem stA_w {q : Nat × (Nat → Nat)} {A : Nat → Nat → Nat} (h : q.1 < 14) : stA q A 0 0 = ctW q.1 (A 0 0) ∧ stA q A 0 1 = ctA q.1 (A 0 1) ∧ stA q A 0 2 = ctC q.1 (A 0 2) := by
  obtain ⟨v, x⟩ := q
  rcases v14 (show v < 14 from h) with rfl | rfl | rfl | rfl | rfl | rfl | rfl | rfl | rfl | rfl | rfl | rfl | rfl | rfl <;> exact ⟨rfl, rfl, rfl⟩
/-- a clause that may stand there -/
def clG (q : Nat × (Nat → Nat)) (A : Nat → Nat → Nat) : Prop := q.1 < 14 ∧ (∀ a, a < clN q.1 → clA q.1 a ≤ q.2 a ∧ q.2 a ≤ clB q.1 a (q.2 0)) ∧ ctW q.1 (A 0 0) ≤ 9 ∧ ctA q.1 (A 0 1) ≤ 6 ∧ ctC q.1 (A 0 2) ≤ 3
/-- the clauses from i on, as both hold them -/
def Tb : Nat → (Nat → Nat → Nat) → List (Nat × (Nat → Nat)) → XS → XS → Prop
  | _, _, [], _, _ => True
  | i, A, q :: L, σ, ρ => clG q A ∧ (σ 13 i = nI q.1 ∧ ∀ a, a < clN q.1 → σ (15 + i) a = nI (q.2 a)) ∧ (ρ 93 (4 * i) = nI (tkV q.1) ∧ ∀ a, a < clN q.1 → ρ 93 (4 * i + 1 + a) = nI (q.2 a)) ∧ Tb (i + 1) (stA q A) L σ ρ
def FC (i : Nat) (σ τ : XS) : Prop := ∀ c b, ¬ (c = 11 ∧ 4 ≤ b ∧ b ≤ 9) → ¬ (c = 13 ∧ i ≤ b) → ¬ (15 + i ≤ c ∧ c ≤ 28) → τ c b = σ c b
def FM (i : Nat) (σ τ : XS) : Prop := ∀ c b, ¬ (c = 85 ∧ 12 ≤ b ∧ b ≤ 20) → ¬ (c = 93 ∧ 4 * i ≤ b) → τ c b = σ c b
theorem FC.tr {i j : Nat} {σ τ υ : XS} (h : FC i σ τ) (g : FC j τ υ) (e : i ≤ j) : FC i σ υ := fun c b z1 z2 z3 => (g c b z1 (by omega) (by omega)).trans (h c b z1 z2 z3)
theorem FM.tr {i j : Nat} {σ τ υ : XS} (h : FM i σ τ) (g : FM j τ υ) (e : i ≤ j) : FM i σ υ := fun c b z1 z2 => (g c b z1 (by omega)).trans (h c b z1 z2)
/-- how reading from clause i on ends: a fault at S, or all clauses -/
def RdR (n i : Nat) (A : Nat → Nat → Nat) (σ ρ : XS) (C M : Option XO) : Prop :=
  (∃ (S : Nat) (τ φ : XS), S ≤ n ∧ FC i σ τ ∧ FM i ρ φ ∧ C = some (nI S, τ) ∧ M = some (0, φ) ∧ φ 85 13 = nI S) ∨
  ∃ (L : List (Nat × (Nat → Nat))) (τ φ : XS), FC i σ τ ∧ FM i ρ φ ∧ C = some (-1, τ) ∧ M = some (1, φ) ∧ i + L.length ≤ 14 ∧ τ 11 4 = nI (i + L.length) ∧ φ 85 17 = nI (i + L.length) ∧ Tb i A L τ φ
theorem tk_end {n : Nat} {t : Nat → Nat} {p S E k x : Nat} (hT : Tk n t p S E k x) : (k = 0 ∧ S = n ∧ E = n) ∨ (k = 3 ∧ S < n ∧ t S = 59) ∨ (k ≠ 0 ∧ k ≠ 3 ∧ S < n ∧ t S ≠ 59) := by
  obtain ⟨-, a2, a3, -, -, ⟨b1, b2, e⟩ | ⟨b1, b2, -, b4⟩ | ⟨b1, b2, -, b4⟩ | ⟨b1, -, b4⟩⟩ := hT
  · exact Or.inl ⟨e, b1, b2⟩
  · right; right
    have := tkS0.mp (b2 S (Nat.le_refl _) b1)
    rcases b4 with ⟨v, -, -, e⟩ | ⟨-, e⟩ <;> omega
  · right; right
    have := tkS1.mp (b2 S (Nat.le_refl _) b1)
    rcases b4 with ⟨-, e, -⟩ | ⟨-, e⟩ <;> omega
  · right
    rcases b4 with ⟨e1, e⟩ | ⟨e1, e⟩
    · left; omega
    · right; omega
theorem nI_m1 {a : Nat} (h : a < 2 ^ 31) : ¬ nI a = -1 := fun z => absurd (congrArg Int32.toInt z) (by rw [nI_toInt h]; show ¬ (a : Int) = -1; omega)
def rkC : XS → Option XO := fun m => some (m 11 5, m)
def rkE : XS → Option XO := fun m => some (-1, m)
def rkF : XS → Option XO := fun m => some (0, m)
def rkT : XS → Option XO := fun m => some (1, m)
section
variable {N n : Nat} {t : Nat → Nat}
theorem tail_m {φ : XS} {k j : Nat} (hk : k < 18) (hj : j ≤ 14) (h14 : φ 85 14 = nI (tkK k)) (h17 : φ 85 17 = nI j) {kk : Int32 → XS → Option XO} {kf : XS → Option XO} : (if (φ 85 14) = 3 then fX10_reads_J209 N kk kf φ else if (φ 85 14) = 0 then fX10_reads_J209 N kk kf φ else kf φ) = if k = 3 then (if j = 14 then kf φ else xB (fX10_looks N φ) (fun _ m => kk 1 m)) else if k = 0 then kk 0 φ else kf φ := by
  obtain ⟨K1, K2, K3, K4, K5⟩ := tkK_t k hk
  unfold fX10_reads_J209 fX10_reads_J228
  rw [h14, h17, l3, show (14 : Int32) = nI 14 from rfl]
  by_cases q : k = 3
  · rw [if_pos q, K3.mpr q, if_pos rfl, if_pos rfl]
    by_cases w : j = 14
    · rw [if_pos w, if_pos (by rw [w])]
    · rw [if_neg w, if_neg (by rw [nI_eq (by omega) (by omega)]; exact w), if_pos rfl, if_neg (by decide)]
  · have q3 : ¬ nI (tkK k) = nI 3 := by rw [nI_eq (by omega) (by omega)]; exact fun z => q (K3.mp z)
    rw [if_neg q, if_neg q3, if_neg q3, if_neg q3]
    by_cases w : k = 0
    · rw [if_pos w, if_pos (by rw [K4.mpr w]; rfl), if_pos rfl]
    · rw [if_neg w, if_neg (by rw [l0, nI_eq (by omega) (by omega)]; exact fun z => w (K4.mp z))]
theorem read_step (hN : 200 ≤ N) {i p : Nat} {A : Nat → Nat → Nat} {σ ρ : XS} {m m' : Nat} (hi : i < 14) (hp : p ≤ n) (hA : A 0 0 ≤ 9 ∧ A 0 1 ≤ 6 ∧ A 0 2 ≤ 3) (hC : TxC n t σ) (h6 : σ 11 6 = nI p) (h7 : σ 11 7 = nI (A 0 0) ∧ σ 11 8 = nI (A 0 1) ∧ σ 11 9 = nI (A 0 2)) (hM : TxM n t ρ) (hT : ∃ S E k x, Tk n t p S E k x ∧ LkM ρ S E k x) (h17 : ρ 85 17 = nI i) (h18 : ρ 85 18 = nI (A 0 0) ∧ ρ 85 19 = nI (A 0 1) ∧ ρ 85 20 = nI (A 0 2))
    (next : i < 13 → ∀ (p : Nat) (A : Nat → Nat → Nat) (σ ρ : XS), p ≤ n → (A 0 0 ≤ 9 ∧ A 0 1 ≤ 6 ∧ A 0 2 ≤ 3) → TxC n t σ → σ 11 6 = nI p → (σ 11 7 = nI (A 0 0) ∧ σ 11 8 = nI (A 0 1) ∧ σ 11 9 = nI (A 0 2)) → TxM n t ρ → (∃ S E k x, Tk n t p S E k x ∧ LkM ρ S E k x) → ρ 85 17 = nI (i + 1) → (ρ 85 18 = nI (A 0 0) ∧ ρ 85 19 = nI (A 0 1) ∧ ρ 85 20 = nI (A 0 2)) → RdR n (i + 1) A σ ρ (fX7_read_L36 N rkC rkE rkC rkC (m + 1) (nI (i + 1)) σ) (fX10_reads_L46 N rkF rkF rkF rkT (m' + 1) 1 ρ)) :
    RdR n i A σ ρ (fX7_read_L36 N rkC rkE rkC rkC (m + 2) (nI i) σ) (fX10_reads_L46 N rkF rkF rkF rkT (m' + 2) 1 ρ) := by
  obtain ⟨S, E, k, x, T1, T2⟩ := hT
  have hn := hC.1
  have hE : E ≤ n := T1.2.2.1
  have hSn : S ≤ n := Nat.le_trans T1.2.1 hE
  have hk := tk_k T1
  obtain ⟨K1, K2, K3, K4, K5⟩ := tkK_t k hk
  obtain ⟨σ1, hσ1⟩ : ∃ z, z = xUp (xUp σ 11 5 (nI S)) 11 6 (nI E) := ⟨_, rfl⟩
  have s5 : σ1 11 5 = nI S := by rw [hσ1, up_c (by omega), up_s]
  have s6 : σ1 11 6 = nI E := by rw [hσ1, up_s]
  have sf : ∀ c b, ¬ (c = 11 ∧ (b = 5 ∨ b = 6)) → σ1 c b = σ c b := fun c b q => by rw [hσ1, up_c (by omega), up_c (by omega)]
  have hC1 : TxC n t σ1 := hC.eq (fun k => sf _ _ (by omega)) (sf _ _ (by omega))
  rw [fX7_read_L36, fX10_reads_L46, show (14 : Int32) = nI 14 from rfl, if_neg (nI_ge hi (by omega)), goOn_c hN hC h6 T1, ← hσ1, xB_s, if_neg (by decide), xLetI_e, T2.2.2.1, l4]
  unfold fX7_readClause
  rw [if_neg (nI_pos (by omega)), show (14 : Int32) = nI 14 from rfl, if_pos (nI_lt hi (by omega))]
  rcases clause_c hN hC1 s5 s6 T1 with ⟨v, hv, ek, e⟩ | ⟨ek, e⟩
  · have eK : tkK k = 4 + tkV v := by unfold tkK; rw [if_neg (by omega), show k - 4 = v by omega]
    have hV := (tkV_ct v hv).1
    obtain ⟨τ1, r1, r2, r3, r4, r5⟩ := room_c (N := N) hv ((sf 11 7 (by omega)).trans h7.1) ((sf 11 8 (by omega)).trans h7.2.1) ((sf 11 9 (by omega)).trans h7.2.2) hA.1 hA.2.1 hA.2.2
    obtain ⟨φ1, g1, g2, g3, g4, g5⟩ := comes_m (N := N) hv h18.1 h18.2.1 h18.2.2 hA.1 hA.2.1 hA.2.2
    rw [e, xB_s, if_neg (nI_m1 (by omega)), r1, xB_s, eK, pk_sub (by omega), show 4 + tkV v - 4 = tkV v by omega, if_neg (nI_pos (by omega)), g1, xB_s, ite1, ite1]
    by_cases hq : ctW v (A 0 0) ≤ 9 ∧ ctA v (A 0 1) ≤ 6 ∧ ctC v (A 0 2) ≤ 3
    · have g17 : φ1 85 17 = nI i := (g5 _ _ (by omega)).trans h17
      obtain ⟨σ2, hσ2⟩ : ∃ z, z = xUp τ1 13 i (nI v) := ⟨_, rfl⟩
      obtain ⟨ρ2, hρ2⟩ : ∃ z, z = xUp φ1 93 (4 * i) (nI (tkV v)) := ⟨_, rfl⟩
      have s2f : ∀ c b, ¬ (c = 11 ∧ 5 ≤ b ∧ b ≤ 9) → ¬ (c = 13 ∧ b = i) → σ2 c b = σ c b := fun c b q w => by rw [hσ2, up_c (by omega), r5 c b (by omega), sf c b (by omega)]
      have r2f : ∀ c b, ¬ (c = 85 ∧ 18 ≤ b ∧ b ≤ 20) → ¬ (c = 93 ∧ b = 4 * i) → ρ2 c b = ρ c b := fun c b q w => by rw [hρ2, up_c (by omega), g5 c b (by omega)]
      have hC2 : TxC n t σ2 := hC.eq (fun k => s2f _ _ (by omega) (by omega)) (s2f _ _ (by omega) (by omega))
      have hM2 : TxM n t ρ2 := hM.eq (fun k => r2f _ _ (by omega) (by omega)) (r2f _ _ (by omega) (by omega))
      obtain ⟨S', E', k', x', T'⟩ := tk_ex (t := t) hE
      obtain ⟨ρ3, f1, f2, f3, f4, f5, f6⟩ := looks_m hN hM2 ((r2f 85 12 (by omega) (by omega)).trans T2.1) T'
      have hM3 : TxM n t ρ3 := hM2.eq (fun k => f6 _ _ (by omega)) (f6 _ _ (by omega))
      have s26 : σ2 11 6 = nI E := by rw [hσ2, up_c (by omega), r5 _ _ (by omega), s6]
      have hR : clR v < 2 ^ 31 := Nat.lt_trans (cl_str v hv).2.2 (by decide)
      rw [if_pos hq, if_pos hq, xLet_e, nI_clamp (show i < 2 ^ 31 by omega), ← hσ2, xin_t hi (by omega), gd_t, roles_c hv, xB_s, nI_clamp hR, g17, pk_mul, xLet_e, nI_clamp (show 4 * i < 2 ^ 31 by omega), ← hρ2, xin_t (show 4 * i < 56 by omega) (by omega), gd_t, f1, xB_s]
      rcases nums_cm hN hi hv (clN v) 0 E (fun _ => 0) σ2 ρ3 N N (by omega) (by have := clN_le (v := v); omega) (by have := clN_le (v := v); omega) hE hC2 s26 (fun a ha => by omega) hM3 ⟨S', E', k', x', T', f2, f3, f4, f5⟩ ((f6 _ _ (by omega)).trans ((r2f 85 17 (by omega) (by omega)).trans h17)) (fun a ha => by omega) (fun a ha => by omega) with ⟨S2, τ2, φ2, q0, q1, q2, q3, q4, q5, q6⟩ | ⟨p2, xs, τ2, φ2, q0, q1, q2, ⟨S2, E2, k2, x2, U1, U2⟩, q4, q5, q6, q7, q8, q9⟩
      · left
        have q5' : ∀ k0 k1, fX7_readClause_L47 N (nI i) (clR v) k0 k1 N 0 σ2 = k0 τ2 := q5
        have q6' : ∀ k0 k1, fX10_reads_L89 N (nI (tkV v)) k0 k1 N 0 ρ3 = k0 φ2 := q6
        refine ⟨S2, τ2, φ2, q0, fun c b z1 z2 z3 => (q3 c b (by omega) (by omega)).trans (s2f c b (by omega) (by omega)), fun c b z1 z2 => (q4 c b (by omega) (by omega)).trans ((f6 c b (by omega)).trans (r2f c b (by omega) (by omega))), ?_, ?_, q2⟩
        · rw [q5', xB_s, if_pos rfl]
          show some (τ2 11 5, τ2) = _
          rw [q1]
        · rw [q6']
          rfl
      · have q8' : ∀ k0 k1, fX7_readClause_L47 N (nI i) (clR v) k0 k1 N 0 σ2 = k1 τ2 := q8
        have q9' : ∀ k0 k1, fX10_reads_L89 N (nI (tkV v)) k0 k1 N 0 ρ3 = k1 φ2 := q9
        have hE2 : E2 ≤ n := U1.2.2.1
        have hS2 : S2 ≤ n := Nat.le_trans U1.2.1 hE2
        have hk2 := tk_k U1
        have fc2 : ∀ c b, ¬ (c = 11 ∧ 5 ≤ b ∧ b ≤ 9) → ¬ (c = 13 ∧ b = i) → c ≠ 15 + i → τ2 c b = σ c b := fun c b z1 z2 z3 => (q6 c b (by omega) z3).trans (s2f c b z1 z2)
        have fm2 : ∀ c b, ¬ (c = 85 ∧ 12 ≤ b ∧ b ≤ 15) → ¬ (c = 85 ∧ 18 ≤ b ∧ b ≤ 20) → ¬ (c = 93 ∧ 4 * i ≤ b ∧ b < 4 * i + 4) → φ2 c b = ρ c b := fun c b z1 z2 z3 => (q7 c b z1 (by omega)).trans ((f6 c b z1).trans (r2f c b z2 (by omega)))
        have c7 : ∀ b, 7 ≤ b → b ≤ 9 → τ2 11 b = τ1 11 b := fun b z1 z2 => by rw [q6 11 b (by omega) (by omega), hσ2, up_c (by omega)]
        have c18 : ∀ b, 18 ≤ b → b ≤ 20 → φ2 85 b = φ1 85 b := fun b z1 z2 => by rw [q7 85 b (by omega) (by omega), f6 85 b (by omega), hρ2, up_c (by omega)]
        have m13 : τ2 13 i = nI v := by rw [q6 13 i (by omega) (by omega), hσ2, up_s]
        have m93 : φ2 93 (4 * i) = nI (tkV v) := by rw [q7 93 (4 * i) (by omega) (by omega), f6 93 _ (by omega), hρ2, up_s]
        have m17 : φ2 85 17 = nI i := (fm2 85 17 (by omega) (by omega) (by omega)).trans h17
        obtain ⟨σ3, hσ3⟩ : ∃ z, z = xUp (xUp (xUp τ2 11 4 (nI (i + 1))) 11 5 (nI S2)) 11 6 (nI E2) := ⟨_, rfl⟩
        obtain ⟨ρ4, hρ4⟩ : ∃ z, z = xUp φ2 85 17 (nI (i + 1)) := ⟨_, rfl⟩
        have s3f : ∀ c b, ¬ (c = 11 ∧ 4 ≤ b ∧ b ≤ 6) → σ3 c b = τ2 c b := fun c b q => by rw [hσ3, up_c (by omega), up_c (by omega), up_c (by omega)]
        have r4f : ∀ c b, ¬ (c = 85 ∧ b = 17) → ρ4 c b = φ2 c b := fun c b q => by rw [hρ4, up_c (by omega)]
        have hFC : FC i σ σ3 := fun c b z1 z2 z3 => (s3f c b (by omega)).trans (fc2 c b (by omega) (by omega) (by omega))
        have hFM : FM i ρ ρ4 := fun c b z1 z2 => (r4f c b (by omega)).trans (fm2 c b (by omega) (by omega) (by omega))
        have hCt : TxC n t (xUp τ2 11 4 (nI (i + 1))) := hC.eq (fun k => by rw [up_c (by omega)]; exact fc2 _ _ (by omega) (by omega) (by omega)) (by rw [up_c (by omega)]; exact fc2 _ _ (by omega) (by omega) (by omega))
        have hC3 : TxC n t σ3 := hC.eq (fun k => hFC _ _ (by omega) (by omega) (by omega)) ((s3f _ _ (by omega)).trans (fc2 _ _ (by omega) (by omega) (by omega)))
        have hM4 : TxM n t ρ4 := hM.eq (fun k => hFM _ _ (by omega) (by omega)) (hFM _ _ (by omega) (by omega))
        have w5 : σ3 11 5 = nI S2 := by rw [hσ3, up_c (by omega), up_s]
        have w4 : σ3 11 4 = nI (i + 1) := by rw [hσ3, up_c (by omega), up_c (by omega), up_s]
        have u14 : ρ4 85 14 = nI (tkK k2) := (r4f _ _ (by omega)).trans U2.2.2.1
        have u17 : ρ4 85 17 = nI (i + 1) := by rw [hρ4, up_s]
        have u13 : ρ4 85 13 = nI S2 := (r4f _ _ (by omega)).trans U2.2.1
        have cl : clG (v, xs) A := ⟨hv, q5, hq⟩
        have tb : ∀ (L : List (Nat × (Nat → Nat))) (τ φ : XS), FC (i + 1) σ3 τ → FM (i + 1) ρ4 φ → Tb (i + 1) (stA (v, xs) A) L τ φ → Tb i A ((v, xs) :: L) τ φ := by
          intro L τ φ z1 z2 z3
          refine ⟨cl, ⟨?_, fun a ha => ?_⟩, ⟨?_, fun a ha => ?_⟩, z3⟩
          · exact (z1 _ _ (by omega) (by omega) (by omega)).trans ((s3f _ _ (by omega)).trans m13)
          · exact (z1 _ _ (by omega) (by omega) (by omega)).trans ((s3f _ _ (by omega)).trans (q2 a ha))
          · exact (z2 _ _ (by omega) (by omega)).trans ((r4f _ _ (by omega)).trans m93)
          · have := clN_le (v := v)
            have ha' : a < clN v := ha
            exact (z2 _ _ (by omega) (by omega)).trans ((r4f _ _ (by omega)).trans (q4 a ha))
        rw [q8', q9', xB_s, if_neg (by decide), xLet_e, nI_1, goOn_c hN hCt ((up_c (by omega)).trans q1) U1, ← hσ3, xB_s, w5, hC3.2.1, xLet_e, m17, nI_1, ← hρ4, tail_m hk2 (by omega) u14 u17]
        rcases tk_end U1 with ⟨k0, e1, e2⟩ | ⟨k3, e1, e2⟩ | ⟨k0, k3, e1, e2⟩
        · rw [if_neg (show ¬ k2 = 3 by omega), if_pos k0, if_neg (nI_nlt (by omega) (by omega)), fX10_reads_L46, if_pos rfl]
          exact Or.inr ⟨[(v, xs)], σ3, ρ4, hFC, hFM, rfl, rfl, hi, w4, u17, tb [] σ3 ρ4 (fun _ _ _ _ _ => rfl) (fun _ _ _ _ => rfl) trivial⟩
        · rw [if_pos k3, if_pos (nI_lt e1 (by omega)), letter_c hC3 e1, xB_s, e2, if_pos (by rfl)]
          by_cases z : i = 13
          · rw [if_pos (show i + 1 = 14 by omega), show i + 1 = 14 by omega, fX7_read_L36, show (14 : Int32) = nI 14 from rfl, if_pos (nI_le (by omega) (by omega))]
            exact Or.inl ⟨S2, σ3, ρ4, hS2, hFC, hFM, by show some (σ3 11 5, σ3) = _; rw [w5], rfl, u13⟩
          · obtain ⟨S5, E5, k5, x5, T5⟩ := tk_ex (t := t) hE2
            obtain ⟨ρ5, y1, y2, y3, y4, y5, y6⟩ := looks_m hN hM4 ((r4f 85 12 (by omega)).trans U2.1) T5
            have hM5 : TxM n t ρ5 := hM4.eq (fun k => y6 _ _ (by omega)) (y6 _ _ (by omega))
            have ew := stA_w (q := (v, xs)) (A := A) hv
            rw [if_neg (show ¬ i + 1 = 14 by omega), y1, xB_s]
            have hx := next (by omega) E2 (stA (v, xs) A) σ3 ρ5 hE2 (by rw [ew.1, ew.2.1, ew.2.2]; exact hq) hC3 (by rw [hσ3, up_s]) ⟨?_, ?_, ?_⟩ hM5 ⟨S5, E5, k5, x5, T5, y2, y3, y4, y5⟩ ((y6 _ _ (by omega)).trans u17) ⟨?_, ?_, ?_⟩
            · rcases hx with ⟨S6, τ, φ, a0, a1, a2, a3, a4, a5⟩ | ⟨L, τ, φ, a1, a2, a3, a4, a5, a6, a7, a8⟩
              · have fm5 : FM i ρ φ := fun c b z1 z2 => (a2 c b z1 (by omega)).trans ((y6 c b (by omega)).trans (hFM c b z1 z2))
                exact Or.inl ⟨S6, τ, φ, a0, hFC.tr a1 (by omega), fm5, a3, a4, a5⟩
              · have fm5 : FM i ρ φ := fun c b z1 z2 => (a2 c b z1 (by omega)).trans ((y6 c b (by omega)).trans (hFM c b z1 z2))
                have fm6 : FM (i + 1) ρ4 φ := fun c b z1 z2 => (a2 c b z1 z2).trans (y6 c b (by omega))
                have el : i + ((v, xs) :: L).length = i + 1 + L.length := by rw [List.length_cons]; omega
                exact Or.inr ⟨(v, xs) :: L, τ, φ, hFC.tr a1 (by omega), fm5, a3, a4, by rw [el]; exact a5, by rw [el]; exact a6, by rw [el]; exact a7, tb L τ φ a1 fm6 a8⟩
            · rw [s3f _ _ (by omega), c7 7 (by omega) (by omega), r2, ew.1]
            · rw [s3f _ _ (by omega), c7 8 (by omega) (by omega), r3, ew.2.1]
            · rw [s3f _ _ (by omega), c7 9 (by omega) (by omega), r4, ew.2.2]
            · rw [y6 _ _ (by omega), r4f _ _ (by omega), c18 18 (by omega) (by omega), g2, ew.1]
            · rw [y6 _ _ (by omega), r4f _ _ (by omega), c18 19 (by omega) (by omega), g3, ew.2.1]
            · rw [y6 _ _ (by omega), r4f _ _ (by omega), c18 20 (by omega) (by omega), g4, ew.2.2]
        · have ht := (hC.2.2 S2 e1).1
          rw [if_neg k3, if_neg k0, if_pos (nI_lt e1 (by omega)), letter_c hC3 e1, xB_s, if_neg (by rw [show (59 : Int32) = nI 59 from rfl, nI_eq (by omega) (by omega)]; exact e2)]
          exact Or.inl ⟨S2, σ3, ρ4, hS2, hFC, hFM, by show some (σ3 11 5, σ3) = _; rw [w5], rfl, u13⟩
    · rw [if_neg hq, if_neg hq, xB_s, if_pos rfl]
      refine Or.inl ⟨S, τ1, φ1, hSn, fun c b z1 z2 z3 => (r5 c b (by omega)).trans (sf c b (by omega)), fun c b z1 z2 => g5 c b (by omega), ?_, rfl, (g5 _ _ (by omega)).trans T2.2.1⟩
      show some (τ1 11 5, τ1) = _
      rw [r5 _ _ (by omega), s5]
  · have e4 := K5 ek
    rw [e, xB_s, if_pos rfl, xB_s, if_pos rfl, if_pos (pk_sneg (by omega) e4)]
    refine Or.inl ⟨S, σ1, ρ, hSn, fun c b z1 z2 z3 => sf c b (by omega), fun _ _ _ _ => rfl, ?_, rfl, T2.2.1⟩
    show some (σ1 11 5, σ1) = _
    rw [s5]
theorem read_cm (hN : 200 ≤ N) : ∀ (d i p : Nat) (A : Nat → Nat → Nat) (σ ρ : XS) (m m' : Nat), i + d = 13 → d < m → d < m' → p ≤ n → (A 0 0 ≤ 9 ∧ A 0 1 ≤ 6 ∧ A 0 2 ≤ 3) → TxC n t σ → σ 11 6 = nI p → (σ 11 7 = nI (A 0 0) ∧ σ 11 8 = nI (A 0 1) ∧ σ 11 9 = nI (A 0 2)) → TxM n t ρ → (∃ S E k x, Tk n t p S E k x ∧ LkM ρ S E k x) → ρ 85 17 = nI i → (ρ 85 18 = nI (A 0 0) ∧ ρ 85 19 = nI (A 0 1) ∧ ρ 85 20 = nI (A 0 2)) →
    RdR n i A σ ρ (fX7_read_L36 N rkC rkE rkC rkC (m + 1) (nI i) σ) (fX10_reads_L46 N rkF rkF rkF rkT (m' + 1) 1 ρ) := by
  intro d
  induction d with
  | zero =>
    intro i p A σ ρ m m' hi hm hm' hp hA hC h6 h7 hM hT h17 h18
    obtain ⟨m, rfl⟩ : ∃ z, m = z + 1 := ⟨m - 1, by omega⟩
    obtain ⟨m', rfl⟩ : ∃ z, m' = z + 1 := ⟨m' - 1, by omega⟩
    exact read_step hN (by omega) hp hA hC h6 h7 hM hT h17 h18 (fun z => by omega)
  | succ d ih =>
    intro i p A σ ρ m m' hi hm hm' hp hA hC h6 h7 hM hT h17 h18
    obtain ⟨m, rfl⟩ : ∃ z, m = z + 1 := ⟨m - 1, by omega⟩
    obtain ⟨m', rfl⟩ : ∃ z, m' = z + 1 := ⟨m' - 1, by omega⟩
    exact read_step hN (by omega) hp hA hC h6 h7 hM hT h17 h18 (fun z p A σ ρ a1 a2 a3 a4 a5 a6 a7 a8 a9 => ih (i + 1) p A σ ρ m m' (by omega) (by omega) (by omega) a1 a2 a3 a4 a5 a6 a7 a8 a9)
end
