/-! THE CLASS'S TOKENS: numbers, names -/
theorem tk_len : ∀ v, v < 14 → xslen v = nI (tkL v) ∧ 1 ≤ tkL v ∧ tkL v ≤ 8 ∧ xlenS.getD v 0 = tkL v := by decide +kernel
theorem tk_chr : ∀ v, v < 14 → ∀ i, i < tkL v → xschar v (nI i) = nI (tkC v i) ∧ tkC v i < 256 ∧ tkS (tkC v i) = 0 := by decide +kernel
theorem tk_hash : ∀ v, v < 14 → hsS (tkC v) (tkL v) = tkH v := by decide +kernel
theorem tk_inj : ∀ v, v < 14 → ∀ u, u < 14 → tkH v = tkH u → v = u := by decide +kernel
theorem hsS_eq {f g : Nat → Nat} : ∀ n, (∀ i, i < n → f i = g i) → hsS f n = hsS g n := by
  intro n
  induction n with
  | zero => intro _; rfl
  | succ n ih =>
    intro h
    show 32 * hsS f n + (f n - 96) = 32 * hsS g n + (g n - 96)
    rw [ih (fun i hi => h i (by omega)), h n (by omega)]
theorem tk_hs {t : Nat → Nat} {S E v : Nat} (hv : v < 14) (h : tkM t S E v) : hsS (fun i => t (S + i)) (E - S) = tkH v := by
  rw [h.1, hsS_eq (f := fun i => t (S + i)) (g := tkC v) (tkL v) h.2]
  exact tk_hash v hv
theorem tkM_inj {t : Nat → Nat} {S E v u : Nat} (hv : v < 14) (hu : u < 14) (h : tkM t S E v) (g : tkM t S E u) : v = u := tk_inj v hv u hu ((tk_hs hv h).symm.trans (tk_hs hu g))
theorem hsS_inj {f g : Nat → Nat} : ∀ n m, (∀ i, i < n → tkS (f i) = 0) → (∀ i, i < m → tkS (g i) = 0) → hsS f n = hsS g m → n = m ∧ ∀ i, i < n → f i = g i := by
  intro n
  induction n with
  | zero =>
    intro m _ hg e
    cases m with
    | zero => exact ⟨rfl, fun i hi => by omega⟩
    | succ m =>
      exfalso
      have e2 : 0 = 32 * hsS g m + (g m - 96) := e
      rcases tkS_cases (g m) with ⟨-, q⟩ | ⟨q, -⟩ | ⟨q, -⟩
      · omega
      · have := hg m (by omega); omega
      · have := hg m (by omega); omega
  | succ n ih =>
    intro m hf hg e
    have hfn : 97 ≤ f n ∧ f n ≤ 122 := by
      rcases tkS_cases (f n) with ⟨-, q⟩ | ⟨q, -⟩ | ⟨q, -⟩
      · exact q
      · have := hf n (by omega); omega
      · have := hf n (by omega); omega
    cases m with
    | zero =>
      exfalso
      have e2 : 32 * hsS f n + (f n - 96) = 0 := e
      omega
    | succ m =>
      have hgm : 97 ≤ g m ∧ g m ≤ 122 := by
        rcases tkS_cases (g m) with ⟨-, q⟩ | ⟨q, -⟩ | ⟨q, -⟩
        · exact q
        · have := hg m (by omega); omega
        · have := hg m (by omega); omega
      have e2 : 32 * hsS f n + (f n - 96) = 32 * hsS g m + (g m - 96) := e
      obtain ⟨i1, i2⟩ := ih m (fun i hi => hf i (by omega)) (fun i hi => hg i (by omega)) (by omega)
      refine ⟨by omega, fun i hi => ?_⟩
      by_cases z : i = n
      · subst z
        subst i1
        omega
      · exact i2 i (by omega)
theorem tkM_of {t : Nat → Nat} {S E v : Nat} (hv : v < 14) (hs : ∀ i, S ≤ i → i < E → tkS (t i) = 0) (h : hsS (fun i => t (S + i)) (E - S) = tkH v) : tkM t S E v := by
  obtain ⟨i1, i2⟩ := hsS_inj (f := fun i => t (S + i)) (g := tkC v) (E - S) (tkL v) (fun i hi => hs _ (by omega) (by omega)) (fun i hi => (tk_chr v hv i hi).2.2) (h.trans (tk_hash v hv).symm)
  exact ⟨i1, fun i hi => i2 i (by omega)⟩
/-- no name where no small letters stand -/
theorem tkM_not {t : Nat → Nat} {S E v : Nat} (hv : v < 14) (h : tkM t S E v) : S < E ∧ tkS (t S) = 0 := by
  obtain ⟨h1, h2⟩ := h
  obtain ⟨-, g1, -, -⟩ := tk_len v hv
  have e := h2 0 (by omega)
  exact ⟨by omega, by rw [show S = S + 0 from rfl, e]; exact (tk_chr v hv 0 (by omega)).2.2⟩
section
variable {N n : Nat} {t : Nat → Nat} {σ : XS} {S E p k x : Nat}
theorem num_L (h : TxC n t σ) (hE : E ≤ n) (h6 : σ 11 6 = nI E) (hd : ∀ i, S ≤ i → i < E → tkS (t i) = 1) {kk : Int32 → XS → Option XO} : ∀ (d i m : Nat), S + i + d = E → d < m → fX7_numberHere_L34 N kk m (nI (nvS (fun j => t (S + j)) i)) (nI (S + i)) σ = kk (nI (nvS (fun j => t (S + j)) (E - S))) σ := by
  have hn := h.1
  intro d
  induction d with
  | zero =>
    intro i m hi hm
    obtain ⟨m, rfl⟩ : ∃ q, m = q + 1 := ⟨m - 1, by omega⟩
    rw [fX7_numberHere_L34, h6, if_pos (nI_le (by omega) (by omega)), show E - S = i by omega]
  | succ d ih =>
    intro i m hi hm
    obtain ⟨m, rfl⟩ : ∃ q, m = q + 1 := ⟨m - 1, by omega⟩
    have hb : 48 ≤ t (S + i) := by
      have := hd (S + i) (by omega) (by omega)
      rcases tkS_cases (t (S + i)) with ⟨q, -⟩ | ⟨-, q⟩ | ⟨q, -⟩ <;> omega
    rw [fX7_numberHere_L34, h6, if_neg (nI_ge (by omega) (by omega)), letter_c h (by omega), xB_s, xLetI_e, show (48 : Int32) = nI 48 from rfl, show (10 : Int32) = nI 10 from rfl, pk_sub hb, pk_mul, nI_add, nI_1, Nat.mul_comm]
    exact ih (i + 1) m (by omega) (by omega)
/-- the number that stands there -/
theorem number_c (hN : 200 ≤ N) (h : TxC n t σ) (h5 : σ 11 5 = nI S) (h6 : σ 11 6 = nI E) (hT : Tk n t p S E k x) : fX7_numberHere N σ = some (if k = 2 then nI x else -1, σ) := by
  obtain ⟨a1, a2, a3, a4, a5, a6⟩ := hT
  have hn := h.1
  unfold fX7_numberHere
  rw [h5]
  rcases a6 with ⟨b1, b2, b3⟩ | ⟨b1, b2, b3, b4⟩ | ⟨b1, b2, b3, b4⟩ | ⟨b1, b2, b4⟩
  · rw [b1, sort_e h, xB_s, if_neg (by decide), if_neg (by omega)]
  · rw [sort_c h (by omega), xB_s, b2 S (Nat.le_refl _) b1, if_neg (by decide), if_neg (by rcases b4 with ⟨v, -, -, q⟩ | ⟨-, q⟩ <;> omega)]
  · rw [sort_c h (by omega), xB_s, b2 S (Nat.le_refl _) b1, if_pos (by rfl), h5, h6, pk_sub (by omega), l2]
    rcases b4 with ⟨c1, c2, c3⟩ | ⟨c1, c2⟩
    · rw [if_pos (nI_le c1 (by decide)), if_pos c2, c3]
      exact num_L h a3 h6 b2 (E - S) 0 N (by omega) (by omega)
    · rw [if_neg (nI_ge c1 (by omega)), if_neg (by omega)]
  · rw [sort_c h (by omega), xB_s, b2, if_neg (by decide), if_neg (by rcases b4 with ⟨-, q⟩ | ⟨-, q⟩ <;> omega)]
theorem here_L (h : TxC n t σ) (hE : E ≤ n) (h5 : σ 11 5 = nI S) {v : Nat} (hv : v < 14) (hl : S + tkL v = E) {kf kt : XS → Option XO} : ∀ (d i m : Nat), i + d = tkL v → d < m → ((∀ j, i ≤ j → j < tkL v → t (S + j) = tkC v j) ∧ fX7_isHere_L20 N v kf kt m (nI i) σ = kt σ) ∨ ((∃ j, j < tkL v ∧ t (S + j) ≠ tkC v j) ∧ fX7_isHere_L20 N v kf kt m (nI i) σ = kf σ) := by
  have hn := h.1
  obtain ⟨g1, g2, g3, g4⟩ := tk_len v hv
  intro d
  induction d with
  | zero =>
    intro i m hi hm
    obtain ⟨m, rfl⟩ : ∃ q, m = q + 1 := ⟨m - 1, by omega⟩
    left
    refine ⟨fun j q1 q2 => by omega, ?_⟩
    rw [fX7_isHere_L20, gd_e (decide_eq_true (by omega)), g1, if_pos (nI_le (by omega) (by omega))]
  | succ d ih =>
    intro i m hi hm
    obtain ⟨m, rfl⟩ : ∃ q, m = q + 1 := ⟨m - 1, by omega⟩
    obtain ⟨f1, f2, f3⟩ := tk_chr v hv i (by omega)
    have hb := (h.2.2 (S + i) (by omega)).1
    have e : fX7_isHere_L20 N v kf kt (m + 1) (nI i) σ = if t (S + i) = tkC v i then fX7_isHere_L20 N v kf kt m (nI (i + 1)) σ else kf σ := by
      rw [fX7_isHere_L20, gd_e (decide_eq_true (by omega)), g1, if_neg (nI_ge (by omega) (by omega)), h5, nI_add, letter_c h (by omega), xB_s, gd_e (by rw [g4, xin_t (by omega) (by omega), Bool.and_true]; exact decide_eq_true (by omega)), f1, nI_1]
      by_cases q : t (S + i) = tkC v i
      · rw [if_pos q, if_pos (by rw [q])]
      · rw [if_neg q, if_neg (by rw [nI_eq (by omega) (by omega)]; exact q)]
    rw [e]
    by_cases q : t (S + i) = tkC v i
    · rw [if_pos q]
      rcases ih (i + 1) m (by omega) (by omega) with ⟨r1, r2⟩ | ⟨r1, r2⟩
      · left
        refine ⟨fun j q1 q2 => ?_, r2⟩
        by_cases z : j = i
        · subst z; exact q
        · exact r1 j (by omega) q2
      · right
        exact ⟨r1, r2⟩
    · rw [if_neg q]
      right
      exact ⟨⟨i, by omega, q⟩, rfl⟩
theorem here_c (hN : 200 ≤ N) (h : TxC n t σ) (h5 : σ 11 5 = nI S) (h6 : σ 11 6 = nI E) (hS : S ≤ E) (hE : E ≤ n) {v : Nat} (hv : v < 14) : (tkM t S E v ∧ fX7_isHere N σ v = some (1, σ)) ∨ (¬ tkM t S E v ∧ fX7_isHere N σ v = some (0, σ)) := by
  have hn := h.1
  obtain ⟨g1, g2, g3, g4⟩ := tk_len v hv
  unfold fX7_isHere
  rw [gd_e (decide_eq_true (by omega)), g1, h5, h6, pk_sub hS]
  by_cases q : tkL v = E - S
  · rw [if_pos (by rw [q])]
    rcases here_L (N := N) (kf := fun m4 => some (0, m4)) (kt := fun m5 => some (1, m5)) h hE h5 hv (by omega) (tkL v) 0 N (by omega) (by omega) with ⟨r1, r2⟩ | ⟨⟨j, r1, r3⟩, r2⟩
    · exact Or.inl ⟨⟨q.symm, fun i hi => r1 i (by omega) hi⟩, r2⟩
    · exact Or.inr ⟨fun z => r3 (z.2 j r1), r2⟩
  · rw [if_neg (by rw [nI_eq (by omega) (by omega)]; exact q)]
    exact Or.inr ⟨fun z => q z.1.symm, rfl⟩
theorem name_c {u : Nat} (hu : u < 14) : fX7_nameOf N σ (nI u) = some (nI u, σ) := by
  rcases (show u = 0 ∨ u = 1 ∨ u = 2 ∨ u = 3 ∨ u = 4 ∨ u = 5 ∨ u = 6 ∨ u = 7 ∨ u = 8 ∨ u = 9 ∨ u = 10 ∨ u = 11 ∨ u = 12 ∨ u = 13 by omega) with rfl | rfl | rfl | rfl | rfl | rfl | rfl | rfl | rfl | rfl | rfl | rfl | rfl | rfl <;> rfl
theorem clause_L (hN : 200 ≤ N) (h : TxC n t σ) (h5 : σ 11 5 = nI S) (h6 : σ 11 6 = nI E) (hS : S ≤ E) (hE : E ≤ n) {ky : Int32 → XS → Option XO} {kn : XS → Option XO} : ∀ (d u m : Nat), u + d = 14 → d < m → (∃ v, v < 14 ∧ tkM t S E v ∧ fX7_clauseHere_L2 N ky kn m (nI u) σ = ky (nI v) σ) ∨ ((∀ v, u ≤ v → v < 14 → ¬ tkM t S E v) ∧ fX7_clauseHere_L2 N ky kn m (nI u) σ = kn σ) := by
  intro d
  induction d with
  | zero =>
    intro u m hu hm
    obtain ⟨m, rfl⟩ : ∃ q, m = q + 1 := ⟨m - 1, by omega⟩
    right
    refine ⟨fun v q1 q2 => by omega, ?_⟩
    rw [fX7_clauseHere_L2, show (14 : Int32) = nI 14 from rfl, if_pos (nI_le (by omega) (by omega))]
  | succ d ih =>
    intro u m hu hm
    obtain ⟨m, rfl⟩ : ∃ q, m = q + 1 := ⟨m - 1, by omega⟩
    rcases here_c hN h h5 h6 hS hE (v := u) (by omega) with ⟨r1, r2⟩ | ⟨r1, r2⟩
    · left
      refine ⟨u, by omega, r1, ?_⟩
      rw [fX7_clauseHere_L2, show (14 : Int32) = nI 14 from rfl, if_neg (nI_ge (by omega) (by omega)), name_c (by omega), xB_s, nI_clamp (by omega), r2, xB_s, if_neg (by decide)]
    · have e : fX7_clauseHere_L2 N ky kn (m + 1) (nI u) σ = fX7_clauseHere_L2 N ky kn m (nI (u + 1)) σ := by
        rw [fX7_clauseHere_L2, show (14 : Int32) = nI 14 from rfl, if_neg (nI_ge (by omega) (by omega)), name_c (by omega), xB_s, nI_clamp (by omega), r2, xB_s, if_pos (by rfl), nI_1]
      rw [e]
      rcases ih (u + 1) m (by omega) (by omega) with ⟨v, s1, s2, s3⟩ | ⟨s1, s2⟩
      · exact Or.inl ⟨v, s1, s2, s3⟩
      · right
        refine ⟨fun v q1 q2 => ?_, s2⟩
        by_cases z : v = u
        · subst z; exact r1
        · exact s1 v (by omega) q2
/-- the verb that stands there, or none -/
theorem clause_c (hN : 200 ≤ N) (h : TxC n t σ) (h5 : σ 11 5 = nI S) (h6 : σ 11 6 = nI E) (hT : Tk n t p S E k x) : (∃ v, v < 14 ∧ k = 4 + v ∧ fX7_clauseHere N σ = some (nI v, σ)) ∨ (k < 4 ∧ fX7_clauseHere N σ = some (-1, σ)) := by
  obtain ⟨a1, a2, a3, a4, a5, a6⟩ := hT
  unfold fX7_clauseHere
  rcases clause_L (N := N) (ky := fun x7 m8 => some (x7, m8)) (kn := fun m9 => some (-1, m9)) hN h h5 h6 a2 a3 14 0 N (by omega) (by omega) with ⟨v, r1, r2, r3⟩ | ⟨r1, r2⟩
  · left
    refine ⟨v, r1, ?_, r3⟩
    obtain ⟨z1, z2⟩ := tkM_not r1 r2
    rcases a6 with ⟨b1, b2, b3⟩ | ⟨b1, b2, b3, b4⟩ | ⟨b1, b2, b3, b4⟩ | ⟨b1, b2, b4⟩
    · omega
    · rcases b4 with ⟨u, q1, q2, q3⟩ | ⟨q1, -⟩
      · rw [tkM_inj r1 q1 r2 q2]; exact q3
      · exact absurd r2 (q1 v r1)
    · have := b2 S (Nat.le_refl _) b1; omega
    · omega
  · right
    refine ⟨?_, r2⟩
    rcases a6 with ⟨b1, b2, b3⟩ | ⟨b1, b2, b3, b4⟩ | ⟨b1, b2, b3, b4⟩ | ⟨b1, b2, b4⟩
    · omega
    · rcases b4 with ⟨u, q1, q2, q3⟩ | ⟨-, q⟩
      · exact absurd q2 (r1 u (by omega) q1)
      · omega
    · rcases b4 with ⟨-, q, -⟩ | ⟨-, q⟩ <;> omega
    · rcases b4 with ⟨-, q⟩ | ⟨-, q⟩ <;> omega
end
