/-! CLAUSES: how many numbers, between which bounds; whether there is room -/
def clN (v : Nat) : Nat := if v < 3 then 3 else if v = 3 ∨ 11 ≤ v then 2 else 0
def clA (v j : Nat) : Nat := if v < 3 ∧ j < 2 then 1 else if (v = 3 ∨ v = 12) ∧ j = 0 then 1 else 0
def clB (v j y : Nat) : Nat := if v < 3 then (if j = 0 then 4 else if j = 1 then y else 5) else if v = 3 then (if j = 0 then 4 else 5) else if v = 11 then (if j = 0 then 3 else 5) else if v = 12 then (if j = 0 then 12 else 3) else if j = 0 then 5 else 9
def clR (v : Nat) : Nat := if v < 3 then 14 else if v = 3 then 15 else if v < 11 then 16 else if v = 11 then 17 else if v = 12 then 18 else 19
def ctW (v w : Nat) : Nat := if v < 4 then w + 1 else if v = 10 then 0 else w
def ctA (v a : Nat) : Nat := if v = 12 then a + 1 else if v = 10 then 0 else a
def ctC (v c : Nat) : Nat := if 4 ≤ v ∧ v < 7 then c + 1 else if v = 10 then 0 else c
def pLow (c : Int32) : Int32 := if c = 83 then 1 else if c = 84 then 1 else if c = 87 then 1 else 0
def pHigh (c p : Int32) : Int32 := if c = 80 then 3 else if c = 81 then 9 else if c = 82 then 5 else if c = 83 then 4 else if c = 84 then p else if c = 85 then 9 else if c = 86 then 9 else if c = 87 then 12 else 9
theorem v14 {v : Nat} (hv : v < 14) : v = 0 ∨ v = 1 ∨ v = 2 ∨ v = 3 ∨ v = 4 ∨ v = 5 ∨ v = 6 ∨ v = 7 ∨ v = 8 ∨ v = 9 ∨ v = 10 ∨ v = 11 ∨ v = 12 ∨ v = 13 := by omega
theorem clN_le {v : Nat} : clN v ≤ 3 := by unfold clN; repeat' split
                                           all_goals omega
theorem cl_str : ∀ v, v < 14 → xslen (clR v) = nI (clN v) ∧ xlenS.getD (clR v) 0 = clN v ∧ clR v < 20 := by decide +kernel
theorem cl_low : ∀ v, v < 14 → ∀ j, j < clN v → pLow (xschar (clR v) (nI j)) = nI (clA v j) ∧ clA v j ≤ 1 := by decide +kernel
theorem cl_high0 : ∀ v, v < 14 → ∀ j, j < clN v → (v < 3 ∧ j = 1 → xschar (clR v) (nI j) = 84) ∧ (¬ (v < 3 ∧ j = 1) → pHigh (xschar (clR v) (nI j)) 0 = nI (clB v j 0) ∧ ¬ xschar (clR v) (nI j) = 84) := by decide +kernel
theorem pHigh_e {c p q : Int32} (h : ¬ c = 84) : pHigh c p = pHigh c q := by unfold pHigh; rw [if_neg h, if_neg h]
theorem clB_e {v j y : Nat} (h : ¬ (v < 3 ∧ j = 1)) : clB v j y = clB v j 0 := by
  unfold clB
  by_cases a : v < 3
  · rw [if_pos a, if_pos a, if_neg (fun q => h ⟨a, q⟩), if_neg (fun q => h ⟨a, q⟩)]
  · rw [if_neg a, if_neg a]
theorem cl_high {v j y : Nat} {p : Int32} (hv : v < 14) (hj : j < clN v) (hp : j = 1 → p = nI y) : pHigh (xschar (clR v) (nI j)) p = nI (clB v j y) := by
  obtain ⟨h1, h2⟩ := cl_high0 v hv j hj
  by_cases q : v < 3 ∧ j = 1
  · have e : clB v j y = y := by
      unfold clB
      rw [if_pos q.1, if_neg (by omega), if_pos q.2]
    rw [h1 q, e, ← hp q.2]
    rfl
  · rw [pHigh_e (h2 q).2 (q := 0), (h2 q).1, clB_e (y := y) q]
theorem clB_le {v j y : Nat} (hy : y ≤ 99) : clB v j y ≤ 99 := by
  unfold clB
  repeat' split
  all_goals omega
section
variable {N : Nat} {σ : XS}
theorem roles_c {v : Nat} (hv : v < 14) : fX7_rolesIn N σ (nI v) = some (nI (clR v), σ) := by
  rcases v14 hv with rfl | rfl | rfl | rfl | rfl | rfl | rfl | rfl | rfl | rfl | rfl | rfl | rfl | rfl <;> rfl
theorem lowest_c {c : Int32} : fX7_lowest N σ c = some (pLow c, σ) := by
  unfold fX7_lowest pLow
  by_cases h1 : c = 83
  · rw [if_pos h1, if_pos h1]
  rw [if_neg h1, if_neg h1]
  by_cases h2 : c = 84
  · rw [if_pos h2, if_pos h2]
  rw [if_neg h2, if_neg h2]
  by_cases h3 : c = 87
  · rw [if_pos h3, if_pos h3]
  rw [if_neg h3, if_neg h3]
theorem highest_c {c p : Int32} : fX7_highest N σ c p = some (pHigh c p, σ) := by
  unfold fX7_highest pHigh
  by_cases h1 : c = 80
  · rw [if_pos h1, if_pos h1]
  rw [if_neg h1, if_neg h1]
  by_cases h2 : c = 81
  · rw [if_pos h2, if_pos h2]
  rw [if_neg h2, if_neg h2]
  by_cases h3 : c = 82
  · rw [if_pos h3, if_pos h3]
  rw [if_neg h3, if_neg h3]
  by_cases h4 : c = 83
  · rw [if_pos h4, if_pos h4]
  rw [if_neg h4, if_neg h4]
  by_cases h5 : c = 84
  · rw [if_pos h5, if_pos h5]
  rw [if_neg h5, if_neg h5]
  by_cases h6 : c = 85
  · rw [if_pos h6, if_pos h6]
  rw [if_neg h6, if_neg h6]
  by_cases h7 : c = 86
  · rw [if_pos h7, if_pos h7]
  rw [if_neg h7, if_neg h7]
  by_cases h8 : c = 87
  · rw [if_pos h8, if_pos h8]
  rw [if_neg h8, if_neg h8]
theorem numbers_m {v : Nat} (hv : v < 14) : fX10_numbers N σ (nI (tkV v)) = some (nI (clN v), σ) := by
  rcases v14 hv with rfl | rfl | rfl | rfl | rfl | rfl | rfl | rfl | rfl | rfl | rfl | rfl | rfl | rfl <;> rfl
theorem low_m {v j : Nat} (hv : v < 14) (hj : j < clN v) : fX10_low N σ (nI (tkV v)) (nI j) = some (nI (clA v j), σ) := by
  have h3 := clN_le (v := v)
  rcases (show j = 0 ∨ j = 1 ∨ j = 2 by omega) with rfl | rfl | rfl <;> rcases v14 hv with rfl | rfl | rfl | rfl | rfl | rfl | rfl | rfl | rfl | rfl | rfl | rfl | rfl | rfl <;> first | rfl | exact absurd hj (by decide)
theorem high_m {v j : Nat} {p : Int32} (hv : v < 14) (hj : j < clN v) : fX10_high N σ (nI (tkV v)) (nI j) p = some (if v < 3 ∧ j = 1 then p else nI (clB v j 0), σ) := by
  have h3 := clN_le (v := v)
  rcases (show j = 0 ∨ j = 1 ∨ j = 2 by omega) with rfl | rfl | rfl <;> rcases v14 hv with rfl | rfl | rfl | rfl | rfl | rfl | rfl | rfl | rfl | rfl | rfl | rfl | rfl | rfl <;> first | rfl | exact absurd hj (by decide)
/-- the class: is there room -/
theorem room_j {w a c : Nat} (h7 : σ 11 7 = nI w) (h8 : σ 11 8 = nI a) (h9 : σ 11 9 = nI c) (hw : w < 100) (ha : a < 100) (hc : c < 100) : fX7_hasRoomFor_J77 N σ = some (if w ≤ 9 ∧ a ≤ 6 ∧ c ≤ 3 then 1 else 0, σ) := by
  unfold fX7_hasRoomFor_J77
  rw [h7, h8, h9, show (9 : Int32) = nI 9 from rfl, l6, l3]
  by_cases q1 : w ≤ 9
  · rw [if_neg (nI_nlt q1 (by omega))]
    by_cases q2 : a ≤ 6
    · rw [if_neg (nI_nlt q2 (by omega))]
      by_cases q3 : c ≤ 3
      · rw [if_neg (nI_nlt q3 (by omega)), if_pos ⟨q1, q2, q3⟩]
      · rw [if_pos (nI_lt (by omega) (by omega)), if_neg (by omega)]
    · rw [if_pos (nI_lt (by omega) (by omega)), if_neg (by omega)]
  · rw [if_pos (nI_lt (by omega) (by omega)), if_neg (by omega)]
theorem room_c {v w a c : Nat} (hv : v < 14) (h7 : σ 11 7 = nI w) (h8 : σ 11 8 = nI a) (h9 : σ 11 9 = nI c) (hw : w ≤ 9) (ha : a ≤ 6) (hc : c ≤ 3) : ∃ τ, fX7_hasRoomFor N σ (nI v) = some (if ctW v w ≤ 9 ∧ ctA v a ≤ 6 ∧ ctC v c ≤ 3 then 1 else 0, τ) ∧ τ 11 7 = nI (ctW v w) ∧ τ 11 8 = nI (ctA v a) ∧ τ 11 9 = nI (ctC v c) ∧ ∀ d b, ¬ (d = 11 ∧ 7 ≤ b ∧ b ≤ 9) → τ d b = σ d b := by
  have fin : ∀ (τ : XS), τ 11 7 = nI (ctW v w) → τ 11 8 = nI (ctA v a) → τ 11 9 = nI (ctC v c) → (∀ d b, ¬ (d = 11 ∧ 7 ≤ b ∧ b ≤ 9) → τ d b = σ d b) → ∃ τ', fX7_hasRoomFor_J77 N τ = some (if ctW v w ≤ 9 ∧ ctA v a ≤ 6 ∧ ctC v c ≤ 3 then 1 else 0, τ') ∧ τ' 11 7 = nI (ctW v w) ∧ τ' 11 8 = nI (ctA v a) ∧ τ' 11 9 = nI (ctC v c) ∧ ∀ d b, ¬ (d = 11 ∧ 7 ≤ b ∧ b ≤ 9) → τ' d b = σ d b := by
    intro τ e1 e2 e3 e4
    refine ⟨τ, room_j e1 e2 e3 ?_ ?_ ?_, e1, e2, e3, e4⟩
    · unfold ctW; repeat' split
      all_goals omega
    · unfold ctA; repeat' split
      all_goals omega
    · unfold ctC; repeat' split
      all_goals omega
  unfold fX7_hasRoomFor
  rw [l3, show (7 : Int32) = nI 7 from rfl, show (12 : Int32) = nI 12 from rfl, show (10 : Int32) = nI 10 from rfl]
  by_cases q1 : v ≤ 3
  · rw [if_neg (nI_nlt q1 (by omega)), xLet_e, h7, nI_1]
    refine fin _ ?_ ?_ ?_ (fun d b q => up_c (by omega))
    · rw [up_s]; unfold ctW; rw [if_pos (by omega)]
    · rw [up_c (by omega), h8]; unfold ctA; rw [if_neg (by omega), if_neg (by omega)]
    · rw [up_c (by omega), h9]; unfold ctC; rw [if_neg (by omega), if_neg (by omega)]
  · rw [if_pos (nI_lt (by omega) (by omega))]
    by_cases q2 : 7 ≤ v
    · rw [if_pos (nI_le q2 (by omega))]
      by_cases q3 : v = 12
      · rw [if_pos (by rw [q3]), xLet_e, h8, nI_1]
        refine fin _ ?_ ?_ ?_ (fun d b q => up_c (by omega))
        · rw [up_c (by omega), h7]; unfold ctW; rw [if_neg (by omega), if_neg (by omega)]
        · rw [up_s]; unfold ctA; rw [if_pos q3]
        · rw [up_c (by omega), h9]; unfold ctC; rw [if_neg (by omega), if_neg (by omega)]
      · rw [if_neg (by rw [nI_eq (by omega) (by omega)]; exact q3)]
        by_cases q4 : v = 10
        · rw [if_pos (by rw [q4]), xLet_e, xLet_e, xLet_e]
          refine fin _ ?_ ?_ ?_ (fun d b q => by rw [up_c (by omega), up_c (by omega), up_c (by omega)])
          · rw [up_c (by omega), up_c (by omega), up_s]; unfold ctW; rw [if_neg (by omega), if_pos q4]; rfl
          · rw [up_c (by omega), up_s]; unfold ctA; rw [if_neg (by omega), if_pos q4]; rfl
          · rw [up_s]; unfold ctC; rw [if_neg (by omega), if_pos q4]; rfl
        · rw [if_neg (by rw [nI_eq (by omega) (by omega)]; exact q4)]
          refine fin _ ?_ ?_ ?_ (fun d b q => rfl)
          · rw [h7]; unfold ctW; rw [if_neg (by omega), if_neg q4]
          · rw [h8]; unfold ctA; rw [if_neg (by omega), if_neg q4]
          · rw [h9]; unfold ctC; rw [if_neg (by omega), if_neg q4]
    · rw [if_neg (nI_ge (by omega) (by omega)), xLet_e, h9, nI_1]
      refine fin _ ?_ ?_ ?_ (fun d b q => up_c (by omega))
      · rw [up_c (by omega), h7]; unfold ctW; rw [if_neg (by omega), if_neg (by omega)]
      · rw [up_c (by omega), h8]; unfold ctA; rw [if_neg (by omega), if_neg (by omega)]
      · rw [up_s]; unfold ctC; rw [if_pos (by omega)]
/-- the reference: does the clause come -/
theorem comes_80 {w a c d : Nat} (h18 : σ 85 18 = nI w) (h19 : σ 85 19 = nI a) (hw : w < 100) (ha : a < 100) (hc : c + d < 100) : fX10_comes_J80 N (nI d) (nI c) σ = some (if w ≤ 9 ∧ a ≤ 6 ∧ c + d ≤ 3 then 1 else 0, xUp σ 85 20 (nI (c + d))) := by
  unfold fX10_comes_J80
  rw [xLet_e, nI_add, up_c (by omega), up_c (by omega), up_s, h18, h19, show (9 : Int32) = nI 9 from rfl, l6, l3]
  by_cases q1 : w ≤ 9
  · rw [if_neg (nI_nlt q1 (by omega))]
    by_cases q2 : a ≤ 6
    · rw [if_neg (nI_nlt q2 (by omega))]
      by_cases q3 : c + d ≤ 3
      · rw [if_neg (nI_nlt q3 (by omega)), if_pos ⟨q1, q2, q3⟩]
      · rw [if_pos (nI_lt (by omega) (by omega)), if_neg (by omega)]
    · rw [if_pos (nI_lt (by omega) (by omega)), if_neg (by omega)]
  · rw [if_pos (nI_lt (by omega) (by omega)), if_neg (by omega)]
theorem comes_55 {u w a c d : Nat} (hu : u < 14) (h18 : σ 85 18 = nI w) (h20 : σ 85 20 = nI c) (hw : w < 50) (ha : a + d < 50) (hc : c < 50) : fX10_comes_J55 N (nI u) (nI d) (nI a) σ = some (if w ≤ 9 ∧ a + d ≤ 6 ∧ c + (if 5 < u ∧ u < 9 then 1 else 0) ≤ 3 then 1 else 0, xUp (xUp σ 85 19 (nI (a + d))) 85 20 (nI (c + (if 5 < u ∧ u < 9 then 1 else 0)))) := by
  have e18 : ∀ z, xUp σ 85 19 z 85 18 = nI w := fun z => (up_c (by omega)).trans h18
  unfold fX10_comes_J55
  rw [xLet_e, nI_add, up_c (by omega), h20, l5, show (9 : Int32) = nI 9 from rfl]
  by_cases q1 : u ≤ 5
  · rw [if_pos (nI_le q1 (by omega)), if_neg (show ¬ (5 < u ∧ u < 9) by omega)]
    exact comes_80 (c := c) (d := 0) (e18 _) up_s (by omega) (by omega) (by omega)
  · rw [if_neg (nI_ge (by omega) (by omega))]
    by_cases q2 : 9 ≤ u
    · rw [if_pos (nI_le q2 (by omega)), if_neg (show ¬ (5 < u ∧ u < 9) by omega)]
      exact comes_80 (c := c) (d := 0) (e18 _) up_s (by omega) (by omega) (by omega)
    · rw [if_neg (nI_ge (by omega) (by omega)), if_pos (⟨by omega, by omega⟩ : 5 < u ∧ u < 9)]
      exact comes_80 (c := c) (d := 1) (e18 _) up_s (by omega) (by omega) (by omega)
theorem comes_36 {u w a c d : Nat} (hu : u < 14) (h19 : σ 85 19 = nI a) (h20 : σ 85 20 = nI c) (hw : w + d < 50) (ha : a < 49) (hc : c < 50) : fX10_comes_J36 N (nI u) (nI d) (nI w) σ = some (if w + d ≤ 9 ∧ a + (if u = 5 then 1 else 0) ≤ 6 ∧ c + (if 5 < u ∧ u < 9 then 1 else 0) ≤ 3 then 1 else 0, xUp (xUp (xUp σ 85 18 (nI (w + d))) 85 19 (nI (a + (if u = 5 then 1 else 0)))) 85 20 (nI (c + (if 5 < u ∧ u < 9 then 1 else 0)))) := by
  unfold fX10_comes_J36
  rw [xLet_e, nI_add, up_c (by omega), h19, l5]
  by_cases q1 : u = 5
  · rw [if_pos (by rw [q1]), if_pos q1]
    exact comes_55 (d := 1) hu up_s ((up_c (by omega)).trans h20) (by omega) (by omega) (by omega)
  · rw [if_neg (by rw [nI_eq (by omega) (by omega)]; exact q1), if_neg q1]
    exact comes_55 (d := 0) hu up_s ((up_c (by omega)).trans h20) (by omega) (by omega) (by omega)
theorem comes_21 {u w a c : Nat} (hu : u < 14) (h18 : σ 85 18 = nI w) (h19 : σ 85 19 = nI a) (h20 : σ 85 20 = nI c) (hw : w < 40) (ha : a < 40) (hc : c < 40) : fX10_comes_J21 N (nI u) σ = some (if w + (if u < 4 then 1 else 0) ≤ 9 ∧ a + (if u = 5 then 1 else 0) ≤ 6 ∧ c + (if 5 < u ∧ u < 9 then 1 else 0) ≤ 3 then 1 else 0, xUp (xUp (xUp σ 85 18 (nI (w + (if u < 4 then 1 else 0)))) 85 19 (nI (a + (if u = 5 then 1 else 0)))) 85 20 (nI (c + (if 5 < u ∧ u < 9 then 1 else 0)))) := by
  unfold fX10_comes_J21
  rw [h18, l4]
  by_cases q1 : u < 4
  · rw [if_neg (nI_ge q1 (by omega)), if_pos q1]
    exact comes_36 (d := 1) hu h19 h20 (by omega) (by omega) (by omega)
  · rw [if_pos (nI_le (by omega) (by omega)), if_neg q1]
    exact comes_36 (d := 0) hu h19 h20 (by omega) (by omega) (by omega)
theorem tkV_ct : ∀ v, v < 14 → tkV v < 14 ∧ (tkV v = 13 ↔ v = 10) ∧ (tkV v < 4 ↔ v < 4) ∧ (tkV v = 5 ↔ v = 12) ∧ ((5 < tkV v ∧ tkV v < 9) ↔ (4 ≤ v ∧ v < 7)) := by decide +kernel
theorem comes_m {v w a c : Nat} (hv : v < 14) (h18 : σ 85 18 = nI w) (h19 : σ 85 19 = nI a) (h20 : σ 85 20 = nI c) (hw : w ≤ 9) (ha : a ≤ 6) (hc : c ≤ 3) : ∃ τ, fX10_comes N σ (nI (tkV v)) = some (if ctW v w ≤ 9 ∧ ctA v a ≤ 6 ∧ ctC v c ≤ 3 then 1 else 0, τ) ∧ τ 85 18 = nI (ctW v w) ∧ τ 85 19 = nI (ctA v a) ∧ τ 85 20 = nI (ctC v c) ∧ ∀ d b, ¬ (d = 85 ∧ 18 ≤ b ∧ b ≤ 20) → τ d b = σ d b := by
  obtain ⟨t1, t2, t3, t4, t5⟩ := tkV_ct v hv
  have fin : ∀ (ρ : XS) (w a c : Nat), w < 40 → a < 40 → c < 40 → ρ 85 18 = nI w → ρ 85 19 = nI a → ρ 85 20 = nI c → (∀ d b, ¬ (d = 85 ∧ 18 ≤ b ∧ b ≤ 20) → ρ d b = σ d b) → ∃ τ, fX10_comes_J21 N (nI (tkV v)) ρ = some (if w + (if v < 4 then 1 else 0) ≤ 9 ∧ a + (if v = 12 then 1 else 0) ≤ 6 ∧ c + (if 4 ≤ v ∧ v < 7 then 1 else 0) ≤ 3 then 1 else 0, τ) ∧ τ 85 18 = nI (w + (if v < 4 then 1 else 0)) ∧ τ 85 19 = nI (a + (if v = 12 then 1 else 0)) ∧ τ 85 20 = nI (c + (if 4 ≤ v ∧ v < 7 then 1 else 0)) ∧ ∀ d b, ¬ (d = 85 ∧ 18 ≤ b ∧ b ≤ 20) → τ d b = σ d b := by
    intro ρ w a c hw ha hc e1 e2 e3 e4
    rw [comes_21 t1 e1 e2 e3 hw ha hc]
    simp only [t3, t4, t5]
    refine ⟨_, rfl, ?_, ?_, ?_, fun d b q => ?_⟩
    · rw [up_c (by omega), up_c (by omega), up_s]
    · rw [up_c (by omega), up_s]
    · rw [up_s]
    · rw [up_c (by omega), up_c (by omega), up_c (by omega)]
      exact e4 d b q
  unfold fX10_comes
  rw [show (13 : Int32) = nI 13 from rfl]
  by_cases q : v = 10
  · rw [if_pos (by rw [t2.mpr q]), xLet_e, xLet_e, xLet_e]
    have := fin (xUp (xUp (xUp σ 85 18 0) 85 19 0) 85 20 0) 0 0 0 (by omega) (by omega) (by omega) (by rw [up_c (by omega), up_c (by omega), up_s]; rfl) (by rw [up_c (by omega), up_s]; rfl) (by rw [up_s]; rfl) (fun d b q => by rw [up_c (by omega), up_c (by omega), up_c (by omega)])
    subst q
    exact this
  · rw [if_neg (by rw [nI_eq (by omega) (by omega)]; exact fun z => q (t2.mp z))]
    have e1 : w + (if v < 4 then 1 else 0) = ctW v w := by
      unfold ctW
      by_cases z : v < 4
      · rw [if_pos z, if_pos z]
      · rw [if_neg z, if_neg z, if_neg q]; omega
    have e2 : a + (if v = 12 then 1 else 0) = ctA v a := by
      unfold ctA
      by_cases z : v = 12
      · rw [if_pos z, if_pos z]
      · rw [if_neg z, if_neg z, if_neg q]; omega
    have e3 : c + (if 4 ≤ v ∧ v < 7 then 1 else 0) = ctC v c := by
      unfold ctC
      by_cases z : 4 ≤ v ∧ v < 7
      · rw [if_pos z, if_pos z]
      · rw [if_neg z, if_neg z, if_neg q]; omega
    rw [← e1, ← e2, ← e3]
    exact fin σ w a c (by omega) (by omega) (by omega) h18 h19 h20 (fun _ _ _ => rfl)
end
