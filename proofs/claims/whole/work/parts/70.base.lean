/-! PURE MATHEMATICS: base -/
theorem xB_s {r : Int32} {σ : XS} {k : Int32 → XS → Option XO} : xB (some (r, σ)) k = k r σ := rfl
theorem gd_t {T : Option XO} : gd true T = T := rfl
theorem gd_f {T : Option XO} : gd false T = none := rfl
theorem gd_e {b : Bool} {T : Option XO} (h : b = true) : gd b T = T := by rw [h]; rfl
theorem xLet_e {v : XS} {k : XS → Option XO} : xLet v k = k v := rfl
theorem xLetI_e {v : Int32} {k : Int32 → Option XO} : xLetI v k = k v := rfl
theorem l0 : (0 : Int32) = nI 0 := rfl
theorem l1 : (1 : Int32) = nI 1 := rfl
theorem l2 : (2 : Int32) = nI 2 := rfl
theorem l3 : (3 : Int32) = nI 3 := rfl
theorem l4 : (4 : Int32) = nI 4 := rfl
theorem l5 : (5 : Int32) = nI 5 := rfl
theorem l6 : (6 : Int32) = nI 6 := rfl
theorem xin_n {i n : Nat} (h : i < 2 ^ 31) : xin (nI i) n = decide (i < n) := by
  have h0 : decide (nI i < 0) = false := decide_eq_false (nI_pos h)
  unfold xin
  rw [h0, nI_clamp h, Bool.false_or]
  by_cases q : i < n
  · rw [decide_eq_true q, decide_eq_false (by omega)]; rfl
  · rw [decide_eq_false q, decide_eq_true (by omega)]; rfl
theorem xin_t {i n : Nat} (h : i < n) (hn : n < 2 ^ 31) : xin (nI i) n = true := by rw [xin_n (by omega)]; exact decide_eq_true h
/-- a number: below, above, or one of the first n -/
theorem icase (x : Int32) (n : Nat) (hn : n < 2 ^ 31) : x < 0 ∨ nI n ≤ x ∨ ∃ j, j < n ∧ x = nI j := pk_ix x hn
theorem lgc (x y : Int64) : (lg_cmp x y < 0 ↔ x < y) ∧ (0 < lg_cmp x y ↔ y < x) := by
  unfold lg_cmp
  by_cases h : x > y
  · rw [if_pos h]
    exact ⟨⟨fun q => absurd q (by decide), fun q => absurd h (Int64.not_lt.mpr (Int64.le_of_lt q))⟩, ⟨fun _ => h, fun _ => by decide⟩⟩
  · rw [if_neg h]
    by_cases e : x = y
    · rw [if_pos e]; subst e
      exact ⟨⟨fun q => absurd q (by decide), fun q => absurd q (Int64.lt_irrefl)⟩, ⟨fun q => absurd q (by decide), fun q => absurd q (Int64.lt_irrefl)⟩⟩
    · rw [if_neg e]
      refine ⟨⟨fun _ => ?_, fun _ => by decide⟩, ⟨fun q => absurd q (by decide), fun q => absurd q h⟩⟩
      have h1 := Int64.not_lt.mp h
      rcases Int64.lt_or_eq_of_le h1 with q | q
      · exact q
      · exact absurd q e
/-- the reference's bounds' test -/
theorem in_spec {N : Nat} {σ : XS} {v lo hi : Int64} : fX10_in N σ v lo hi = some (if lo ≤ v ∧ v ≤ hi then 1 else 0, σ) := by
  unfold fX10_in
  by_cases h1 : lg_cmp v lo < 0
  · rw [if_pos h1, if_neg (fun q => Int64.not_lt.mpr q.1 ((lgc _ _).1.mp h1))]
  · rw [if_neg h1]
    have g1 : lo ≤ v := Int64.not_lt.mp (fun q => h1 ((lgc _ _).1.mpr q))
    by_cases h2 : 0 < lg_cmp v hi
    · rw [if_pos h2, if_neg (fun q => Int64.not_lt.mpr q.2 ((lgc _ _).2.mp h2))]
    · rw [if_neg h2, if_pos ⟨g1, Int64.not_lt.mp (fun q => h2 ((lgc _ _).2.mpr q))⟩]
theorem wle {a b : Int32} : a.toInt64 ≤ b.toInt64 ↔ a ≤ b := by
  rw [Int64.le_iff_toInt_le, Int32.toInt_toInt64, Int32.toInt_toInt64, Int32.le_iff_toInt_le]
theorem wz {b : Int32} {k : Int64} {m : Int32} (hk : k = m.toInt64) : (k ≤ b.toInt64 ↔ m ≤ b) ∧ (b.toInt64 ≤ k ↔ b ≤ m) := by
  subst hk; exact ⟨wle, wle⟩
/-- likewise, bounds of 32 bits -/
theorem in_spec2 {N : Nat} {σ : XS} {v : Int32} {lo hi : Int64} (l h : Int32) (hl : lo = l.toInt64) (hh : hi = h.toInt64) : fX10_in N σ v.toInt64 lo hi = some (if l ≤ v ∧ v ≤ h then 1 else 0, σ) := by
  rw [in_spec]
  have e : (lo ≤ v.toInt64 ∧ v.toInt64 ≤ hi) ↔ (l ≤ v ∧ v ≤ h) := by rw [(wz hl).1, (wz hh).2]
  by_cases q : l ≤ v ∧ v ≤ h
  · rw [if_pos q, if_pos (e.mpr q)]
  · rw [if_neg q, if_neg (fun z => q (e.mp z))]
theorem le_pred {v : Int32} {n : Nat} (hn : n < 2 ^ 31) : (v ≤ nI n - 1) ↔ v < nI n := by
  rw [Int32.le_iff_toInt_le, Int32.lt_iff_toInt_lt, nI_toInt hn]
  have : (nI n - 1).toInt = (n : Int) - 1 := by
    rw [l1, Int32.toInt_sub, nI_toInt hn, nI_toInt (by decide)]
    rw [Int.bmod_eq_of_le (by omega) (by omega)]
    rfl
  rw [this]; omega
/-- x is one of the first n -/
def isb (x : Int32) (n : Nat) : Prop := 0 ≤ x ∧ x < nI n
theorem isb_iff {x : Int32} {n : Nat} (hn : n < 2 ^ 31) : isb x n ↔ ∃ j, j < n ∧ x = nI j := by
  constructor
  · intro ⟨h1, h2⟩
    rcases icase x n hn with h | h | h
    · exact absurd h (Int32.not_lt.mpr h1)
    · exact absurd h2 (Int32.not_lt.mpr h)
    · exact h
  · rintro ⟨j, hj, rfl⟩
    exact ⟨by rw [l0]; exact nI_le (Nat.zero_le j) (by omega), nI_lt hj hn⟩
/-- an own bounds' test of the class: 1 or 0 -/
theorem own_test {σ : XS} {x : Int32} {n : Nat} (hn : n < 2 ^ 31) : (if x < 0 then some ((0 : Int32), σ) else if nI n ≤ x then some (0, σ) else some (1, σ)) = some (if ∃ j, j < n ∧ x = nI j then 1 else 0, σ) := by
  rcases icase x n hn with h | h | ⟨j, hj, rfl⟩
  · rw [if_pos h, if_neg]
    rintro ⟨j, hj, rfl⟩
    exact nI_pos (by omega) h
  · by_cases h0 : x < 0
    · rw [if_pos h0, if_neg]
      rintro ⟨j, hj, rfl⟩
      exact nI_pos (by omega) h0
    · rw [if_neg h0, if_pos h, if_neg]
      rintro ⟨j, hj, rfl⟩
      exact nI_ge hj (by omega) h
  · rw [if_neg (nI_pos (by omega)), if_neg (nI_ge hj hn), if_pos ⟨j, hj, rfl⟩]
theorem ref_test {N : Nat} {σ : XS} {x : Int32} {n : Nat} (hn : n < 2 ^ 31) : fX10_in N σ x.toInt64 0 (nI n - 1).toInt64 = some (if ∃ j, j < n ∧ x = nI j then 1 else 0, σ) := by
  rw [in_spec2 (lo := 0) (hi := (nI n - 1).toInt64) 0 (nI n - 1) rfl rfl]
  have e : (0 ≤ x ∧ x ≤ nI n - 1) ↔ ∃ j, j < n ∧ x = nI j := by rw [le_pred hn]; exact isb_iff hn
  by_cases q : ∃ j, j < n ∧ x = nI j
  · rw [if_pos q, if_pos (e.mpr q)]
  · rw [if_neg q, if_neg (fun z => q (e.mp z))]
theorem ref_test2 {N : Nat} {σ : XS} {x : Int32} {n : Nat} {k : Int64} (hn : n < 2 ^ 31) (hk : k = (nI n).toInt64) : fX10_in N σ x.toInt64 0 k = some (if ∃ j, j < n + 1 ∧ x = nI j then 1 else 0, σ) ∨ 2 ^ 31 ≤ n + 1 := by
  by_cases hb : n + 1 < 2 ^ 31
  · left
    rw [in_spec2 (lo := 0) (hi := k) 0 (nI n) rfl hk]
    have e : (0 ≤ x ∧ x ≤ nI n) ↔ ∃ j, j < n + 1 ∧ x = nI j := by
      rw [← isb_iff hb]
      unfold isb
      have : x ≤ nI n ↔ x < nI (n + 1) := by
        rw [Int32.le_iff_toInt_le, Int32.lt_iff_toInt_lt, nI_toInt hn, nI_toInt hb]; omega
      rw [this]
    by_cases q : ∃ j, j < n + 1 ∧ x = nI j
    · rw [if_pos q, if_pos (e.mpr q)]
    · rw [if_neg q, if_neg (fun z => q (e.mp z))]
  · right; omega
theorem bit01 {q : Prop} {dq : Decidable q} : (decide ((@ite Int32 q dq 1 0) = 0) || decide ((@ite Int32 q dq 1 0) = 1)) = true := by
  by_cases h : q
  · rw [if_pos h]; decide
  · rw [if_neg h]; decide
theorem ite1 {q : Prop} {dq : Decidable q} {T1 T2 : Option XO} : (if (@ite Int32 q dq 1 0) = 0 then T1 else T2) = @ite _ q dq T2 T1 := by
  by_cases h : q
  · rw [if_pos h, if_pos h, if_neg (by decide)]
  · rw [if_neg h, if_neg h, if_pos rfl]
