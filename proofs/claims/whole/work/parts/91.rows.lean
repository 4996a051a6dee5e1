/-! ROWS of least and many: blocks, what a demand asks -/
theorem cn_acc {P : Nat → Bool} : ∀ d i acc, cn P d i acc = acc + cn P d i 0 := by
  intro d
  induction d with
  | zero => intro i acc; rfl
  | succ d ih =>
    intro i acc
    show cn P d (i + 1) (if P i = true then acc + 1 else acc) = acc + cn P d (i + 1) (if P i = true then 0 + 1 else 0)
    by_cases q : P i = true
    · rw [if_pos q, if_pos q, ih (i + 1) (acc + 1), ih (i + 1) (0 + 1)]; omega
    · rw [if_neg q, if_neg q]; exact ih (i + 1) acc
theorem cn_add {P : Nat → Bool} : ∀ d e i acc, cn P (d + e) i acc = cn P e (i + d) (cn P d i acc) := by
  intro d
  induction d with
  | zero => intro e i acc; rw [Nat.zero_add]; rfl
  | succ d ih =>
    intro e i acc
    rw [show d + 1 + e = (d + e) + 1 by omega]
    show cn P (d + e) (i + 1) (if P i = true then acc + 1 else acc) = cn P e (i + (d + 1)) (cn P d (i + 1) (if P i = true then acc + 1 else acc))
    rw [ih e (i + 1), show i + 1 + d = i + (d + 1) by omega]
theorem cn_shift {P : Nat → Bool} {B : Nat} : ∀ d i acc, cn P d (B + i) acc = cn (fun c => P (B + c)) d i acc := by
  intro d
  induction d with
  | zero => intro i acc; rfl
  | succ d ih =>
    intro i acc
    show cn P d (B + i + 1) (if P (B + i) = true then acc + 1 else acc) = cn (fun c => P (B + c)) d (i + 1) (if P (B + i) = true then acc + 1 else acc)
    rw [show B + i + 1 = B + (i + 1) by omega, ih]
theorem cn_congr {P Q : Nat → Bool} : ∀ d i acc, (∀ c, i ≤ c → c < i + d → P c = Q c) → cn P d i acc = cn Q d i acc := by
  intro d
  induction d with
  | zero => intro i acc _; rfl
  | succ d ih =>
    intro i acc h
    show cn P d (i + 1) (if P i = true then acc + 1 else acc) = cn Q d (i + 1) (if Q i = true then acc + 1 else acc)
    rw [h i (Nat.le_refl _) (by omega)]
    exact ih _ _ (fun c h1 h2 => h c (by omega) (by omega))
theorem cn_f {P : Nat → Bool} : ∀ d i acc, (∀ c, i ≤ c → c < i + d → P c = false) → cn P d i acc = acc := by
  intro d
  induction d with
  | zero => intro i acc _; rfl
  | succ d ih =>
    intro i acc h
    show cn P d (i + 1) (if P i = true then acc + 1 else acc) = acc
    rw [h i (Nat.le_refl _) (by omega)]
    exact ih _ _ (fun c h1 h2 => h c (by omega) (by omega))
/-- least change v among the codes below B that keep P (-1: none), m of them with it -/
def SPl (P : Nat → Bool) (f : Nat → Nat) (B : Nat) (v m : Int32) : Prop := (v = -1 ∧ m = nI 0 ∧ ∀ c, c < B → P c = false) ∨ ∃ k, k < 100 ∧ v = nI k ∧ (∃ c, c < B ∧ P c = true ∧ f c = k) ∧ (∀ c, c < B → P c = true → k ≤ f c) ∧ m = nI (cn (fun c => P c && decide (f c = k)) B 0 0)
theorem SPl.none {P : Nat → Bool} {f : Nat → Nat} {B L : Nat} {v m : Int32} (h : SPl P f B v m) (hP : ∀ c, c < L → P (B + c) = false) : SPl P f (B + L) v m := by
  have hP2 : ∀ c, B ≤ c → c < B + L → P c = false := fun c h1 h2 => by
    have := hP (c - B) (by omega)
    rw [show B + (c - B) = c by omega] at this
    exact this
  rcases h with ⟨h1, h2, h3⟩ | ⟨k, k1, k2, ⟨c, c1, c2, c3⟩, k4, k5⟩
  · refine Or.inl ⟨h1, h2, fun c hc => ?_⟩
    by_cases q : c < B
    · exact h3 c q
    · exact hP2 c (by omega) hc
  · refine Or.inr ⟨k, k1, k2, ⟨c, by omega, c2, c3⟩, fun c hc hq => ?_, ?_⟩
    · by_cases q : c < B
      · exact k4 c q hq
      · rw [hP2 c (by omega) hc] at hq; cases hq
    · rw [k5, cn_add]
      congr 1
      refine (cn_f _ _ _ (fun c g1 g2 => ?_)).symm
      show (P c && _) = false
      rw [hP2 c (by omega) (by omega), Bool.false_and]
theorem SPl.block {P : Nat → Bool} {f : Nat → Nat} {B L j : Nat} {v m v' m' : Int32} (h : SPl P f B v m) (hj : j < 100) (ha : ∃ c, c < L ∧ P (B + c) = true ∧ f (B + c) = j) (hb : ∀ c, c < L → P (B + c) = true → j ≤ f (B + c))
    {q : Int32} (hq : q = nI (cn (fun c => P (B + c) && decide (f (B + c) = j)) L 0 0))
    (hv : (v = -1 → v' = nI j ∧ m' = 0 + q) ∧ (v ≠ -1 → nI j = v → v' = v ∧ m' = m + q) ∧ (v ≠ -1 → nI j ≠ v → nI j ≤ v → v' = nI j ∧ m' = 0 + q) ∧ (v ≠ -1 → ¬ nI j ≤ v → v' = v ∧ m' = m)) : SPl P f (B + L) v' m' := by
  obtain ⟨a, a1, a2, a3⟩ := ha
  have hb2 : ∀ c, B ≤ c → c < B + L → P c = true → j ≤ f c := fun c h1 h2 h3 => by
    have := hb (c - B) (by omega)
    rw [show B + (c - B) = c by omega] at this
    exact this h3
  have cb : ∀ acc, cn (fun c => P c && decide (f c = j)) L (0 + B) acc = acc + cn (fun c => P (B + c) && decide (f (B + c) = j)) L 0 0 := fun acc => by
    rw [Nat.zero_add, cn_acc, show B = B + 0 from rfl, cn_shift]
    rfl
  obtain ⟨hv1, hv2, hv3, hv4⟩ := hv
  rcases h with ⟨h1, h2, h3⟩ | ⟨k, k1, k2, ⟨c, c1, c2, c3⟩, k4, k5⟩
  · obtain ⟨e1, e2⟩ := hv1 h1
    refine Or.inr ⟨j, hj, e1, ⟨B + a, by omega, a2, a3⟩, fun c hc hq => ?_, ?_⟩
    · by_cases g : c < B
      · rw [h3 c g] at hq; cases hq
      · exact hb2 c (by omega) hc hq
    · have z0 : cn (fun c => P c && decide (f c = j)) B 0 0 = 0 := cn_f _ _ _ (fun c g1 g2 => by show (P c && _) = false; rw [h3 c (by omega), Bool.false_and])
      rw [e2, hq, cn_add, cb, z0, l0, nI_add]
  · have vn : v ≠ -1 := by rw [k2]; exact ne1 (by omega)
    by_cases g : k < j
    · obtain ⟨e1, e2⟩ := hv4 vn (by rw [k2]; exact nI_ge g (by omega))
      refine Or.inr ⟨k, k1, e1.trans k2, ⟨c, by omega, c2, c3⟩, fun c hc hq => ?_, ?_⟩
      · by_cases z : c < B
        · exact k4 c z hq
        · have := hb2 c (by omega) hc hq; omega
      · rw [e2, k5, cn_add]
        congr 1
        refine (cn_f _ _ _ (fun c g1 g2 => ?_)).symm
        show (P c && decide (f c = k)) = false
        by_cases pc : P c = true
        · have := hb2 c (by omega) (by omega) pc
          rw [decide_eq_false (by omega), Bool.and_false]
        · rw [show P c = false by cases h : P c; rfl; exact absurd h pc, Bool.false_and]
    · by_cases z : j = k
      · subst z
        obtain ⟨e1, e2⟩ := hv2 vn k2.symm
        refine Or.inr ⟨j, hj, e1.trans k2, ⟨c, by omega, c2, c3⟩, fun c hc hq => ?_, ?_⟩
        · by_cases y : c < B
          · exact k4 c y hq
          · exact hb2 c (by omega) hc hq
        · rw [e2, k5, hq, nI_add, cn_add, cb]
      · obtain ⟨e1, e2⟩ := hv3 vn (by rw [k2, Ne, nI_eq (by omega) (by omega)]; exact z) (by rw [k2]; exact nI_le (by omega) (by omega))
        refine Or.inr ⟨j, hj, e1, ⟨B + a, by omega, a2, a3⟩, fun c hc hq => ?_, ?_⟩
        · by_cases y : c < B
          · have := k4 c y hq; omega
          · exact hb2 c (by omega) hc hq
        · have z0 : cn (fun c => P c && decide (f c = j)) B 0 0 = 0 := cn_f _ _ _ (fun c g1 g2 => by
            show (P c && decide (f c = j)) = false
            by_cases pc : P c = true
            · have := k4 c (by omega) pc
              rw [decide_eq_false (by omega), Bool.and_false]
            · rw [show P c = false by cases h : P c; rfl; exact absurd h pc, Bool.false_and])
          rw [e2, hq, cn_add, cb, z0, l0, nI_add]
/-- a word allowed behind p syllables; how it counts -/
def alS (A : Nat → Nat → Nat) (ry : Nat) (sl st : Bool) (w p : Nat) (last : Bool) : Bool := fitS A w p && (if last = true then decide (ry = 0) || chimS A w (ry - 1) else !(sl && (st && decide (A 1 w = 1))))
def ctS (A : Nat → Nat → Nat) (sl : Bool) (w : Nat) (last : Bool) : Nat := if (sl && (!last && decide (A 1 w = 1))) = true then A 2 w - 1 else A 2 w
/-- the last d words of code c do, behind p syllables, with s still to count; how many of them aren't the line's -/
def lok (A : Nat → Nat → Nat) (ry : Nat) (sl st : Bool) (c : Nat) : Nat → Nat → Nat → Bool
  | 0, _, s => decide (s = 0)
  | e + 1, p, s => alS A ry sl st (wd (A 0 0) c e) p (decide (e = 0)) && (decide (ctS A sl (wd (A 0 0) c e) (decide (e = 0)) ≤ s) && lok A ry sl st c e ((p + A 2 (wd (A 0 0) c e)) % 2) (s - ctS A sl (wd (A 0 0) c e) (decide (e = 0))))
def lch (A : Nat → Nat → Nat) (alt : Bool) (lw : Nat → Nat) (c : Nat) : Nat → Nat
  | 0 => 0
  | e + 1 => (if alt = true ∧ lw e ≠ wd (A 0 0) c e then 1 else 0) + lch A alt lw c e
theorem lch_le {A : Nat → Nat → Nat} {alt : Bool} {lw : Nat → Nat} {c : Nat} : ∀ d, lch A alt lw c d ≤ d := by
  intro d
  induction d with
  | zero => exact Nat.le_refl _
  | succ d ih =>
    show (if _ then 1 else 0) + lch A alt lw c d ≤ d + 1
    by_cases q : alt = true ∧ lw d ≠ wd (A 0 0) c d
    · rw [if_pos q]; omega
    · rw [if_neg q]; omega
theorem lch_0 {A : Nat → Nat → Nat} {lw : Nat → Nat} {c : Nat} : ∀ d, lch A false lw c d = 0 := by
  intro d
  induction d with
  | zero => rfl
  | succ d ih =>
    show (if _ then 1 else 0) + lch A false lw c d = 0
    rw [ih, if_neg (fun q => by cases q.1)]
theorem lok_lo {A : Nat → Nat → Nat} {ry : Nat} {sl st : Bool} (hW : 0 < A 0 0) {w c d : Nat} : ∀ e p s, e ≤ d → lok A ry sl st (w * A 0 0 ^ d + c) e p s = lok A ry sl st c e p s := by
  intro e
  induction e with
  | zero => intro p s _; rfl
  | succ e ih =>
    intro p s h
    show (alS A ry sl st (wd (A 0 0) _ e) p (decide (e = 0)) && (decide (ctS A sl (wd (A 0 0) _ e) (decide (e = 0)) ≤ s) && lok A ry sl st _ e ((p + A 2 (wd (A 0 0) _ e)) % 2) (s - ctS A sl (wd (A 0 0) _ e) (decide (e = 0))))) = (alS A ry sl st (wd (A 0 0) c e) p (decide (e = 0)) && (decide (ctS A sl (wd (A 0 0) c e) (decide (e = 0)) ≤ s) && lok A ry sl st c e ((p + A 2 (wd (A 0 0) c e)) % 2) (s - ctS A sl (wd (A 0 0) c e) (decide (e = 0)))))
    rw [wd_lo hW (by omega), ih _ _ (by omega)]
theorem lch_lo {A : Nat → Nat → Nat} {alt : Bool} {lw : Nat → Nat} (hW : 0 < A 0 0) {w c d : Nat} : ∀ e, e ≤ d → lch A alt lw (w * A 0 0 ^ d + c) e = lch A alt lw c e := by
  intro e
  induction e with
  | zero => intro _; rfl
  | succ e ih =>
    intro h
    show (if alt = true ∧ lw e ≠ wd (A 0 0) _ e then 1 else 0) + lch A alt lw _ e = (if alt = true ∧ lw e ≠ wd (A 0 0) c e then 1 else 0) + lch A alt lw c e
    rw [wd_lo hW (by omega), ih (by omega)]
theorem lok_bl {A : Nat → Nat → Nat} {ry : Nat} {sl st : Bool} {w c d p s : Nat} (hw : w < A 0 0) (hc : c < A 0 0 ^ d) : lok A ry sl st (w * A 0 0 ^ d + c) (d + 1) p s = (alS A ry sl st w p (decide (d = 0)) && (decide (ctS A sl w (decide (d = 0)) ≤ s) && lok A ry sl st c d ((p + A 2 w) % 2) (s - ctS A sl w (decide (d = 0))))) := by
  show (alS A ry sl st (wd (A 0 0) _ d) p (decide (d = 0)) && (decide (ctS A sl (wd (A 0 0) _ d) (decide (d = 0)) ≤ s) && lok A ry sl st _ d ((p + A 2 (wd (A 0 0) _ d)) % 2) (s - ctS A sl (wd (A 0 0) _ d) (decide (d = 0))))) = _
  rw [wd_hi hw hc, lok_lo (by omega) _ _ _ (Nat.le_refl _)]
theorem lch_bl {A : Nat → Nat → Nat} {alt : Bool} {lw : Nat → Nat} {w c d : Nat} (hw : w < A 0 0) (hc : c < A 0 0 ^ d) : lch A alt lw (w * A 0 0 ^ d + c) (d + 1) = (if alt = true ∧ lw d ≠ w then 1 else 0) + lch A alt lw c d := by
  show (if alt = true ∧ lw d ≠ wd (A 0 0) _ d then 1 else 0) + lch A alt lw _ d = _
  rw [wd_hi hw hc, lch_lo (by omega) _ (Nat.le_refl _)]
section
variable {N : Nat} {A : Nat → Nat → Nat} {σ τ : XS} {ry : Nat} {sl st alt : Bool}
/-- what is asked -/
def DM (ry : Nat) (sl st alt : Bool) (σ : XS) : Prop := (ry = 0 → σ 46 2 = -1) ∧ (0 < ry → ry ≤ 6 ∧ σ 46 2 = nI (ry - 1)) ∧ σ 46 3 = b2i sl ∧ σ 46 4 = b2i st ∧ σ 47 5 = b2i alt
theorem allows_c (hC : TC A σ) (hW : TW A) (hD : DM ry sl st alt σ) {w p : Nat} (hw : w < A 0 0) (hp : p < 60) {last : Bool} : fX1_allows N σ (nI w) (nI p) (b2i last) = some (b2i (alS A ry sl st w p last), σ) := by
  obtain ⟨d1, d2, d3, d4, -⟩ := hD
  have kb := (hW.2.2.2.2.1 w hw).1
  unfold fX1_allows alS
  rw [fits_n hC hW hw (by omega), xB_s, b2i0]
  by_cases f : fitS A w p = true
  · rw [if_pos f, f, Bool.true_and]
    cases last with
    | true =>
      rw [if_neg (by decide), if_pos rfl]
      by_cases z : ry = 0
      · rw [d1 z, if_pos rfl, decide_eq_true z, Bool.true_or]; rfl
      · obtain ⟨z1, z2⟩ := d2 (by omega)
        rw [z2, if_neg (ne1 (by omega)), chimes_n hC hW hw (by omega), xB_s, b2i0, bret, decide_eq_false z, Bool.false_or]
    | false =>
      rw [b2i0, if_neg (by decide : ¬ false = true), if_neg (by decide : ¬ false = true), d3, d4, b2i0, b2i0]
      cases sl with
      | false => rfl
      | true =>
        rw [if_pos rfl]
        cases st with
        | false => rfl
        | true =>
          rw [if_pos rfl, kind_at hC hW hw, xB_s]
          by_cases q : A 1 w = 1
          · rw [q, if_pos (by rfl)]; rfl
          · rw [if_neg (by rw [l1, nI_eq (by omega) (by omega)]; exact q), decide_eq_false q]; rfl
  · have f2 : fitS A w p = false := by cases h : fitS A w p; rfl; exact absurd h f
    rw [if_neg f, f2, Bool.false_and]; rfl
theorem countOf_c (hC : TC A σ) (hW : TW A) (hD : DM ry sl st alt σ) {w : Nat} (hw : w < A 0 0) {last : Bool} : fX1_countOf N σ (nI w) (b2i last) = some (nI (ctS A sl w last), σ) := by
  obtain ⟨d1, d2, d3, d4, -⟩ := hD
  obtain ⟨kb, s1, s2, -⟩ := hW.2.2.2.2.1 w hw
  unfold fX1_countOf ctS
  rw [syl_at hC hW hw, xB_s, d3, b2i0, b2i0]
  cases sl with
  | false => rfl
  | true =>
    rw [if_pos rfl]
    cases last with
    | true => rfl
    | false =>
      rw [if_neg (by decide), kind_at hC hW hw, xB_s]
      by_cases q : A 1 w = 1
      · rw [q, if_pos (by rfl), decide_eq_true (rfl : 1 = 1), if_pos (by rfl), l1, pk_sub (by omega)]
      · rw [if_neg (by rw [l1, nI_eq (by omega) (by omega)]; exact q), decide_eq_false q, if_neg (by decide)]
end
