/-! A LINE: what is counted of it, whether it scans, whether it passes; on both sides -/
def b2i (b : Bool) : Int32 := if b = true then 1 else 0
theorem b2i_t : b2i true = 1 := rfl
theorem b2i_f : b2i false = 0 := rfl
theorem b2i0 {b : Bool} {T1 T2 : Option XO} : (if b2i b = 0 then T1 else T2) = (if b = true then T2 else T1) := by
  cases b <;> rfl
theorem b2i01 {b : Bool} : (decide (b2i b = 0) || decide (b2i b = 1)) = true := by cases b <;> rfl
def sylS (A : Nat → Nat → Nat) (l : Nat → Nat) : Nat → Nat
  | 0 => 0
  | n + 1 => sylS A l n + A 2 (l n)
def elS (A : Nat → Nat → Nat) (l : Nat → Nat) : Nat → Nat
  | 0 => 0
  | n + 1 => elS A l n + (if A 1 (l n) = 1 then 1 else 0)
def cntS (A : Nat → Nat → Nat) (k : Nat) (l : Nat → Nat) (n : Nat) : Nat := if k = 1 then sylS A l n - elS A l (n - 1) else sylS A l n
def fitS (A : Nat → Nat → Nat) (w before : Nat) : Bool := decide (A 0 3 = 0) || decide (A 1 w = 3) || (decide ((before + A 3 w) % 2 = 0) == decide (A 0 3 = 1))
def scanS (A : Nat → Nat → Nat) (l : Nat → Nat) : Nat → Bool
  | 0 => true
  | n + 1 => scanS A l n && fitS A (l n) (sylS A l n)
def chimS (A : Nat → Nat → Nat) (w r : Nat) : Bool := decide (A 1 w = 2) || decide (A 4 w = r)
def passS (A : Nat → Nat → Nat) (l : Nat → Nat) (n a k : Nat) : Bool := decide (n ≠ 0) && (decide (cntS A k l n = A 6 a) && (scanS A l n && (decide (k = 2) || chimS A (l (n - 1)) (A 5 (A 7 a)))))
/-- the class's line; the reference's row -/
def CLn (A : Nat → Nat → Nat) (σ : XS) (L n : Nat) (l : Nat → Nat) : Prop := TC A σ ∧ TW A ∧ σ L 1 = nI n ∧ n ≤ 6 ∧ ∀ i, i < n → l i < A 0 0 ∧ σ (L + 1) i = nI (l i)
def MLn (A : Nat → Nat → Nat) (σ : XS) (r n : Nat) (l : Nat → Nat) : Prop := TM A (σ 86) ∧ TW A ∧ n ≤ xlen r ∧ xlen r ≤ 6 ∧ ∀ i, i < n → l i < A 0 0 ∧ σ r i = nI (l i)
theorem sylS_le {A : Nat → Nat → Nat} (hW : TW A) {l : Nat → Nat} : ∀ n, (∀ i, i < n → l i < A 0 0) → sylS A l n ≤ 4 * n ∧ elS A l n ≤ n ∧ elS A l n ≤ sylS A l n := by
  intro n
  induction n with
  | zero => intro _; exact ⟨Nat.le_refl _, Nat.le_refl _, Nat.le_refl _⟩
  | succ n ih =>
    intro h
    obtain ⟨h1, h2, h3⟩ := ih (fun i hi => h i (by omega))
    obtain ⟨-, g1, g2, -⟩ := hW.2.2.2.2.1 _ (h n (by omega))
    show sylS A l n + A 2 (l n) ≤ _ ∧ elS A l n + _ ≤ _ ∧ elS A l n + _ ≤ sylS A l n + A 2 (l n)
    by_cases e : A 1 (l n) = 1
    · rw [if_pos e]; omega
    · rw [if_neg e]; omega
theorem sylS_mono {A : Nat → Nat → Nat} {l : Nat → Nat} {n m : Nat} (h : n ≤ m) : sylS A l n ≤ sylS A l m := by
  induction m with
  | zero => have : n = 0 := by omega
            subst this; exact Nat.le_refl _
  | succ m ih =>
    by_cases e : n = m + 1
    · subst e; exact Nat.le_refl _
    · exact Nat.le_trans (ih (by omega)) (Nat.le_add_right _ _)
section
variable {N : Nat} {A : Nat → Nat → Nat} {σ : XS} {l : Nat → Nat} {n L r : Nat}
theorem wordAt_n (h : CLn A σ L n l) {i : Nat} (hi : i < n) : fX4_wordAt N σ L (nI i) = some (nI (l i), σ) := by
  obtain ⟨-, -, h1, h2, h3⟩ := h
  unfold fX4_wordAt
  rw [h1, if_neg (nI_pos (by omega)), if_neg (nI_ge hi (by omega)), l6, if_neg (nI_ge (by omega) (by omega)), xin_t (by omega) (by decide), gd_t, nI_clamp (by omega), (h3 i hi).2]
theorem syl_at (hC : TC A σ) (hW : TW A) {w : Nat} (hw : w < A 0 0) : fX9_at N σ 3 (nI w) = some (nI (A 2 w), σ) := by
  rw [at_n (len := 9) rfl (by have := hW.1; omega) (by decide), (hC.2.2.2.2.1 w hw).2.1]
theorem kind_at (hC : TC A σ) (hW : TW A) {w : Nat} (hw : w < A 0 0) : fX9_at N σ 2 (nI w) = some (nI (A 1 w), σ) := by
  rw [at_n (len := 9) rfl (by have := hW.1; omega) (by decide), (hC.2.2.2.2.1 w hw).1]
theorem rhy_at (hC : TC A σ) (hW : TW A) {w : Nat} (hw : w < A 0 0) : fX9_at N σ 5 (nI w) = some (nI (A 4 w), σ) := by
  rw [at_n (len := 9) rfl (by have := hW.1; omega) (by decide), (hC.2.2.2.2.1 w hw).2.2.2]
theorem sylOf (hN : 10 ≤ N) (h : CLn A σ L n l) : fX8_syllablesOf N σ L = some (nI (sylS A l n), σ) := by
  have key : ∀ (d i m : Nat), i + d = n → d < m → fX8_syllablesOf_L4 N L (fun x7 m8 => some (x7, m8)) m (nI (sylS A l i)) (nI i) σ = some (nI (sylS A l n), σ) := by
    intro d
    induction d with
    | zero =>
      intro i m hi hm
      obtain ⟨m, rfl⟩ : ∃ q, m = q + 1 := ⟨m - 1, by omega⟩
      have e : i = n := by omega
      subst e
      rw [fX8_syllablesOf_L4, h.2.2.1, if_pos (nI_le (by omega) (by have := h.2.2.2.1; omega))]
    | succ d ih =>
      intro i m hi hm
      obtain ⟨m, rfl⟩ : ∃ q, m = q + 1 := ⟨m - 1, by omega⟩
      have h6 := h.2.2.2.1
      rw [fX8_syllablesOf_L4, h.2.2.1, if_neg (nI_ge (by omega) (by omega)), wordAt_n h (by omega), xB_s, syl_at h.1 h.2.1 (h.2.2.2.2 i (by omega)).1, xB_s, nI_add, nI_1]
      exact ih (i + 1) m (by omega) (by omega)
  exact key n 0 N (by omega) (by have := h.2.2.2.1; omega)
theorem sub1_le {n i : Nat} (hn : n < 2 ^ 30) (hi : i < 2 ^ 30) : (nI n - 1 ≤ nI i) ↔ n ≤ i + 1 := by
  rw [Int32.le_iff_toInt_le, l1, pk_sub_toInt hn (by decide), nI_toInt (by omega)]
  omega
theorem elOf (hN : 10 ≤ N) (h : CLn A σ L n l) : fX8_elisionsIn N σ L = some (nI (elS A l (n - 1)), σ) := by
  have h6 := h.2.2.2.1
  have key : ∀ (d i m : Nat), i + d = n - 1 → d < m → fX8_elisionsIn_L4 N L (fun x7 m8 => some (x7, m8)) m (nI (elS A l i)) (nI i) σ = some (nI (elS A l (n - 1)), σ) := by
    intro d
    induction d with
    | zero =>
      intro i m hi hm
      obtain ⟨m, rfl⟩ : ∃ q, m = q + 1 := ⟨m - 1, by omega⟩
      have e : i = n - 1 := by omega
      subst e
      rw [fX8_elisionsIn_L4, h.2.2.1, if_pos ((sub1_le (by omega) (by omega)).mpr (by omega))]
    | succ d ih =>
      intro i m hi hm
      obtain ⟨m, rfl⟩ : ∃ q, m = q + 1 := ⟨m - 1, by omega⟩
      have hw := (h.2.2.2.2 i (by omega)).1
      have hk := (h.2.1.2.2.2.2.1 _ hw).1
      rw [fX8_elisionsIn_L4, h.2.2.1, if_neg (fun q => by have := (sub1_le (by omega) (by omega)).mp q; omega), wordAt_n h (by omega), xB_s, kind_at h.1 h.2.1 hw, xB_s]
      by_cases e : A 1 (l i) = 1
      · rw [e, if_pos (by rfl), nI_1, nI_1]
        have := ih (i + 1) m (by omega) (by omega)
        rw [show elS A l (i + 1) = elS A l i + 1 from congrArg (fun z => elS A l i + z) (if_pos e)] at this
        exact this
      · rw [if_neg (by rw [l1, nI_eq (by omega) (by omega)]; exact e), nI_1]
        have := ih (i + 1) m (by omega) (by omega)
        rw [show elS A l (i + 1) = elS A l i + 0 from congrArg (fun z => elS A l i + z) (if_neg e)] at this
        exact this
  exact key (n - 1) 0 N (by omega) (by omega)
theorem clerk_at (hC : TC A σ) (hW : TW A) {c : Nat} (hc : c < A 0 2) : fX9_at N σ 9 (nI c) = some (nI (A 8 c), σ) := by
  rw [at_n (len := 3) rfl (by have := hW.2.2.1; omega) (by decide), hC.2.2.2.2.2.2.2.1 c hc]
theorem slurs_n (hC : TC A σ) (hW : TW A) {c : Nat} (hc : c < A 0 2) : fX8_slurs N σ (nI c) = some (b2i (decide (A 8 c = 1)), σ) := by
  have hk := hW.2.2.2.2.2.2.2.1 c hc
  unfold fX8_slurs
  rw [clerk_at hC hW hc, xB_s]
  by_cases e : A 8 c = 1
  · rw [e, if_pos (by rfl)]; rfl
  · rw [if_neg (by rw [l1, nI_eq (by omega) (by omega)]; exact e), decide_eq_false e]; rfl
theorem deaf_n (hC : TC A σ) (hW : TW A) {c : Nat} (hc : c < A 0 2) : fX8_isDeaf N σ (nI c) = some (b2i (decide (A 8 c = 2)), σ) := by
  have hk := hW.2.2.2.2.2.2.2.1 c hc
  unfold fX8_isDeaf
  rw [clerk_at hC hW hc, xB_s]
  by_cases e : A 8 c = 2
  · rw [e, if_pos (by rfl)]; rfl
  · rw [if_neg (by rw [l2, nI_eq (by omega) (by omega)]; exact e), decide_eq_false e]; rfl
theorem countBy_n (hN : 10 ≤ N) (h : CLn A σ L n l) {c : Nat} (hc : c < A 0 2) : fX8_countBy N σ (nI c) L = some (nI (cntS A (A 8 c) l n), σ) := by
  unfold fX8_countBy cntS
  rw [sylOf hN h, xB_s, slurs_n h.1 h.2.1 hc, xB_s, b2i0]
  by_cases e : A 8 c = 1
  · have g := sylS_le h.2.1 (n - 1) (fun i hi => (h.2.2.2.2 i (by omega)).1)
    rw [decide_eq_true e, if_pos (by rfl), elOf hN h, xB_s, if_pos e, pk_sub (Nat.le_trans g.2.2 (sylS_mono (by omega)))]
  · rw [decide_eq_false e, if_neg (by decide), if_neg e]
theorem and1 {a : Nat} (h : a < 2 ^ 31) : nI a &&& 1 = nI (a % 2) := pk_andN (by omega) 1 rfl
theorem fits_n (hC : TC A σ) (hW : TW A) {w before : Nat} (hw : w < A 0 0) (hb : before < 100) : fX8_fits N σ (nI w) (nI before) = some (b2i (fitS A w before), σ) := by
  obtain ⟨k1, -, k4, k2, k3, -⟩ := hW.2.2.2.2.1 w hw
  obtain ⟨e1, -, e3, -⟩ := hC.2.2.2.2.1 w hw
  have hm := hW.2.2.2.1
  have h9 := hW.1
  have hs := hC.2.2.2.1
  unfold fX8_fits fitS
  rw [hs]
  by_cases m0 : A 0 3 = 0
  · rw [m0, if_pos (by rfl)]; rfl
  · rw [if_neg (by rw [l0, nI_eq (by omega) (by omega)]; exact m0), if_neg (nI_pos (by omega)), show (9 : Int32) = nI 9 from rfl, if_neg (nI_ge (by omega) (by omega)), xin_t (by omega) (by decide), gd_t, nI_clamp (by omega), e1, decide_eq_false m0]
    by_cases k : A 1 w = 3
    · rw [k, if_pos (by rfl)]; rfl
    · rw [if_neg (by rw [l3, nI_eq (by omega) (by omega)]; exact k), decide_eq_false k, Bool.false_or, Bool.false_or]
      have hJ : ∀ t : Nat, t < 2 → fX8_fits_J42 N (nI w) (nI before) (nI t) σ = some (b2i (decide ((before + A 3 w) % 2 = t)), σ) := by
        intro t ht
        unfold fX8_fits_J42
        rw [xin_t (by omega) (by decide), gd_t, nI_clamp (by omega), e3, nI_add, and1 (by omega)]
        by_cases q : (before + A 3 w) % 2 = t
        · rw [q, if_pos (by rfl), decide_eq_true rfl]; rfl
        · rw [if_neg (by rw [nI_eq (by omega) (by omega)]; exact q), decide_eq_false q]; rfl
      by_cases m1 : A 0 3 = 1
      · rw [m1, if_pos (by rfl), l0, hJ 0 (by decide), decide_eq_true (rfl : 1 = 1)]
        cases decide ((before + A 3 w) % 2 = 0) <;> rfl
      · rw [if_neg (by rw [l1, nI_eq (by omega) (by omega)]; exact m1), l1, hJ 1 (by decide), decide_eq_false m1]
        by_cases q : (before + A 3 w) % 2 = 0
        · rw [decide_eq_true q, decide_eq_false (show ¬ (before + A 3 w) % 2 = 1 by omega)]; rfl
        · rw [decide_eq_false q, decide_eq_true (show (before + A 3 w) % 2 = 1 by omega)]; rfl
theorem metre_n (hN : 10 ≤ N) (h : CLn A σ L n l) : fX8_isInMetre N σ L = some (b2i (scanS A l n), σ) := by
  have h6 := h.2.2.2.1
  have hf : ∀ i j, scanS A l i = false → scanS A l (i + j) = false := by
    intro i j hi
    induction j with
    | zero => exact hi
    | succ j ih => show (scanS A l (i + j) && _) = false; rw [ih]; rfl
  have key : ∀ (d i m : Nat), i + d = n → d < m → scanS A l i = true → fX8_isInMetre_L4 N L (fun m13 => some (0, m13)) (fun m14 => some (1, m14)) m (nI (sylS A l i)) (nI i) σ = some (b2i (scanS A l n), σ) := by
    intro d
    induction d with
    | zero =>
      intro i m hi hm hs
      obtain ⟨m, rfl⟩ : ∃ q, m = q + 1 := ⟨m - 1, by omega⟩
      have e : i = n := by omega
      subst e
      rw [fX8_isInMetre_L4, h.2.2.1, if_pos (nI_le (by omega) (by omega)), hs]; rfl
    | succ d ih =>
      intro i m hi hm hs
      obtain ⟨m, rfl⟩ : ∃ q, m = q + 1 := ⟨m - 1, by omega⟩
      have hw := (h.2.2.2.2 i (by omega)).1
      have g := sylS_le h.2.1 i (fun j hj => (h.2.2.2.2 j (by omega)).1)
      rw [fX8_isInMetre_L4, h.2.2.1, if_neg (nI_ge (by omega) (by omega)), wordAt_n h (by omega), xB_s, fits_n h.1 h.2.1 hw (by omega), xB_s, b2i0]
      by_cases q : fitS A (l i) (sylS A l i) = true
      · rw [if_pos q, wordAt_n h (by omega), xB_s, syl_at h.1 h.2.1 hw, xB_s, nI_add, nI_1]
        exact ih (i + 1) m (by omega) (by omega) (by show (scanS A l i && _) = true; rw [hs, q]; rfl)
      · rw [if_neg q]
        have : scanS A l n = false := by
          have e : n = (i + 1) + d := by omega
          rw [e]
          refine hf (i + 1) d ?_
          show (scanS A l i && _) = false
          rw [Bool.not_eq_true] at q
          rw [q, Bool.and_false]
        rw [this]; rfl
  exact key n 0 N (by omega) (by omega) rfl
theorem chimes_n (hC : TC A σ) (hW : TW A) {w q : Nat} (hw : w < A 0 0) (hq : q < 2 ^ 31) : fX8_chimes N σ (nI w) (nI q) = some (b2i (chimS A w q), σ) := by
  obtain ⟨k1, -, -, -, -, k2⟩ := hW.2.2.2.2.1 w hw
  unfold fX8_chimes chimS
  rw [kind_at hC hW hw, xB_s]
  by_cases k : A 1 w = 2
  · rw [k, if_pos (by rfl)]; rfl
  · rw [if_neg (by rw [l2, nI_eq (by omega) (by omega)]; exact k), rhy_at hC hW hw, xB_s, decide_eq_false k, Bool.false_or]
    by_cases e : A 4 w = q
    · rw [e, if_pos (by rfl), decide_eq_true rfl]; rfl
    · rw [if_neg (by rw [nI_eq (by omega) hq]; exact e), decide_eq_false e]; rfl
theorem lastWord_n (h : CLn A σ L n l) (hn : 0 < n) : fX4_lastWord N σ L = some (nI (l (n - 1)), σ) := by
  unfold fX4_lastWord
  rw [h.2.2.1, l1, pk_sub (by omega), wordAt_n h (by omega), xB_s]
theorem admits_n (hN : 10 ≤ N) (h : CLn A σ L n l) {a c : Nat} (ha : a < A 0 1) (hc : c < A 0 2) : fX8_admits N σ L (nI a) (nI c) = some (b2i (passS A l n a (A 8 c)), σ) := by
  obtain ⟨hC, hW, h1, h6, h3⟩ := id h
  obtain ⟨a1, a2, a3⟩ := hW.2.2.2.2.2.2.1 a ha
  obtain ⟨e1, e2⟩ := hC.2.2.2.2.2.2.1 a ha
  have hw6 := hW.2.1
  unfold fX8_admits passS
  rw [h1]
  by_cases n0 : n = 0
  · subst n0; rw [if_pos (by rfl)]; rfl
  · have hcnt : cntS A (A 8 c) l n < 100 := by
      have g := sylS_le hW n (fun j hj => (h3 j hj).1)
      unfold cntS
      split <;> omega
    rw [if_neg (by rw [l0, nI_eq (by omega) (by omega)]; exact n0), countBy_n hN h hc, xB_s, at_n (len := 6) rfl (by omega) (by decide), e1, xB_s, decide_eq_true n0, Bool.true_and]
    by_cases q : cntS A (A 8 c) l n = A 6 a
    · rw [q, if_pos (by rfl), metre_n hN h, xB_s, b2i0, decide_eq_true rfl, Bool.true_and]
      by_cases s : scanS A l n = true
      · rw [if_pos s, deaf_n hC hW hc, xB_s, b2i0, s, Bool.true_and]
        by_cases f : A 8 c = 2
        · rw [decide_eq_true f, if_pos (by rfl)]; rfl
        · rw [decide_eq_false f, if_neg (by decide), lastWord_n h (by omega), xB_s, at_n (len := 6) rfl (by omega) (by decide), e2, xB_s]
          unfold fX8_rhymeOfPort
          rw [at_n (len := 4) rfl (by omega) (by decide), hC.2.2.2.2.2.1 _ (by omega), xB_s, xB_s, chimes_n hC hW (h3 _ (by omega)).1 (by have := hW.2.2.2.2.2.1 (A 7 a) (by omega); omega), xB_s, b2i0, Bool.false_or]
          by_cases z : chimS A (l (n - 1)) (A 5 (A 7 a)) = true
          · rw [if_pos z, z]; rfl
          · rw [if_neg z]; rw [Bool.not_eq_true] at z; rw [z]; rfl
      · rw [if_neg s]; rw [Bool.not_eq_true] at s; rw [s]; rfl
    · rw [if_neg (by rw [nI_eq (by omega) (by omega)]; exact q), decide_eq_false q]; rfl
/-! the reference -/
theorem kindOf_m (hM : TM A (σ 86)) (hW : TW A) {w : Nat} (hw : w < A 0 0) : fX10_kindOf N σ (nI w) = some (nI (A 1 w), σ) := by
  have := hW.1
  unfold fX10_kindOf
  rw [l6, l4, pk_mul, nI_add, xin_t (by omega) (by decide), gd_t, nI_clamp (by omega), (hM.2.2.2.2.1 w hw).1]
theorem syl_m (hM : TM A (σ 86)) (hW : TW A) {w : Nat} (hw : w < A 0 0) : fX10_syllables N σ (nI w) = some (nI (A 2 w), σ) := by
  have := hW.1
  unfold fX10_syllables
  rw [l6, l4, pk_mul, nI_add, nI_1, xin_t (by omega) (by decide), gd_t, nI_clamp (by omega), (hM.2.2.2.2.1 w hw).2.1]
theorem told_m (hN : 10 ≤ N) (h : MLn A σ r n l) : fX10_toldOf N σ r (nI n) = some (nI (sylS A l n), σ) := by
  obtain ⟨hM, hW, h1, h6, h3⟩ := id h
  have key : ∀ (d i m : Nat), i + d = n → d < m → fX10_toldOf_L5 N (nI n) r (fun x4 m5 => some (x4, m5)) m (nI (sylS A l i)) (nI i) σ = some (nI (sylS A l n), σ) := by
    intro d
    induction d with
    | zero =>
      intro i m hi hm
      obtain ⟨m, rfl⟩ : ∃ q, m = q + 1 := ⟨m - 1, by omega⟩
      have e : i = n := by omega
      subst e
      rw [fX10_toldOf_L5, if_pos (nI_le (by omega) (by omega))]
    | succ d ih =>
      intro i m hi hm
      obtain ⟨m, rfl⟩ : ∃ q, m = q + 1 := ⟨m - 1, by omega⟩
      rw [fX10_toldOf_L5, if_neg (nI_ge (by omega) (by omega)), xin_t (by omega) (by omega), gd_t, nI_clamp (by omega), (h3 i (by omega)).2, syl_m hM hW (h3 i (by omega)).1, xB_s, nI_add, nI_1]
      exact ih (i + 1) m (by omega) (by omega)
  exact key n 0 N (by omega) (by omega)
theorem counted_m (hN : 10 ≤ N) (h : MLn A σ r n l) {k : Nat} (hk : k < 100) : fX10_countedBy N σ (nI k) r (nI n) = some (nI (cntS A k l n), σ) := by
  obtain ⟨hM, hW, h1, h6, h3⟩ := id h
  unfold fX10_countedBy
  rw [told_m hN h, xB_s]
  have gs : ∀ i, i ≤ n - 1 → elS A l i ≤ sylS A l n := fun i hi => Nat.le_trans (sylS_le hW i (fun j hj => (h3 j (by omega)).1)).2.2 (sylS_mono (by omega))
  have key : ∀ (d i m : Nat), i + d = n - 1 → d < m → fX10_countedBy_L11 N (nI k) (nI n) r (fun x7 m8 => some (x7, m8)) m (nI (sylS A l n - (if k = 1 then elS A l i else 0))) (nI i) σ = some (nI (sylS A l n - (if k = 1 then elS A l (n - 1) else 0)), σ) := by
    intro d
    induction d with
    | zero =>
      intro i m hi hm
      obtain ⟨m, rfl⟩ : ∃ q, m = q + 1 := ⟨m - 1, by omega⟩
      have e : i = n - 1 := by omega
      subst e
      rw [fX10_countedBy_L11, nI_1, if_pos (nI_le (by omega) (by omega))]
    | succ d ih =>
      intro i m hi hm
      obtain ⟨m, rfl⟩ : ∃ q, m = q + 1 := ⟨m - 1, by omega⟩
      have hw := (h3 i (by omega)).1
      have hkk := (hW.2.2.2.2.1 _ hw).1
      have hI := ih (i + 1) m (by omega) (by omega)
      rw [fX10_countedBy_L11, nI_1, if_neg (nI_ge (by omega) (by omega))]
      by_cases e : k = 1
      · subst e
        rw [if_pos (by rfl)] at hI
        rw [if_pos (by rfl), if_pos (by rfl), xin_t (by omega) (by omega), gd_t, nI_clamp (by omega), (h3 i (by omega)).2, kindOf_m hM hW hw, xB_s]
        by_cases e1 : A 1 (l i) = 1
        · have es : elS A l (i + 1) = elS A l i + 1 := congrArg (fun z => elS A l i + z) (if_pos e1)
          have := gs (i + 1) (by omega)
          rw [es] at hI this
          rw [e1, if_pos (by rfl), l1, pk_sub (by omega), show sylS A l n - elS A l i - 1 = sylS A l n - (elS A l i + 1) by omega]
          exact hI
        · have es : elS A l (i + 1) = elS A l i + 0 := congrArg (fun z => elS A l i + z) (if_neg e1)
          rw [es] at hI
          rw [if_neg (by rw [l1, nI_eq (by omega) (by omega)]; exact e1), l0, pk_sub (Nat.zero_le _)]
          exact hI
      · rw [if_neg e] at hI
        rw [if_neg e, if_neg (by rw [l1, nI_eq (by omega) (by omega)]; exact e), l0, pk_sub (Nat.zero_le _)]
        exact hI
  have := key (n - 1) 0 N (by omega) (by omega)
  have e0 : sylS A l n - (if k = 1 then elS A l 0 else 0) = sylS A l n := by split <;> rfl
  rw [e0] at this
  rw [show (0 : Int32) = nI 0 from rfl, this]
  unfold cntS
  by_cases e : k = 1
  · rw [if_pos e, if_pos e]
  · rw [if_neg e, if_neg e]; rfl
end
