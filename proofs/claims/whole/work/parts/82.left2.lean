/-! LEFT -/
theorem pos0 {x : Nat} (h : x < 2 ^ 31) : (if 0 < nI x then nI x else (0 : Int32)) = nI x := by
  by_cases q : 0 < x
  · rw [if_pos (by rw [l0]; exact nI_lt q h)]
  · rw [show x = 0 by omega]; rfl
theorem min_lt {x y : Nat} (h : x < 2 ^ 31) (h2 : y < 2 ^ 31) : (if nI x < nI y then nI x else nI y) = nI (min x y) := by
  by_cases q : x < y
  · rw [if_pos (nI_lt q h2), Nat.min_eq_left (by omega)]
  · rw [if_neg (nI_nlt (by omega) h), Nat.min_eq_right (by omega)]
theorem bs4 {P : Nat → Bool} : bs P 4 0 0 = (([0, 1, 2, 3, 4, 5, 6, 7, 8, 9, 10, 11, 12, 13, 14, 15] : List Int32).getD ((if P 0 = true then 1 else 0) + (if P 1 = true then 2 else 0) + (if P 2 = true then 4 else 0) + (if P 3 = true then 8 else 0)) 0) := by
  show (if P 3 = true then (if P 2 = true then (if P 1 = true then (if P 0 = true then (0 : Int32) ||| (1 <<< (nI 0 &&& 31)) else 0) ||| (1 <<< (nI 1 &&& 31)) else (if P 0 = true then (0 : Int32) ||| (1 <<< (nI 0 &&& 31)) else 0)) ||| (1 <<< (nI 2 &&& 31)) else (if P 1 = true then (if P 0 = true then (0 : Int32) ||| (1 <<< (nI 0 &&& 31)) else 0) ||| (1 <<< (nI 1 &&& 31)) else (if P 0 = true then (0 : Int32) ||| (1 <<< (nI 0 &&& 31)) else 0))) ||| (1 <<< (nI 3 &&& 31)) else (if P 2 = true then (if P 1 = true then (if P 0 = true then (0 : Int32) ||| (1 <<< (nI 0 &&& 31)) else 0) ||| (1 <<< (nI 1 &&& 31)) else (if P 0 = true then (0 : Int32) ||| (1 <<< (nI 0 &&& 31)) else 0)) ||| (1 <<< (nI 2 &&& 31)) else (if P 1 = true then (if P 0 = true then (0 : Int32) ||| (1 <<< (nI 0 &&& 31)) else 0) ||| (1 <<< (nI 1 &&& 31)) else (if P 0 = true then (0 : Int32) ||| (1 <<< (nI 0 &&& 31)) else 0)))) = _
  cases P 0 <;> cases P 1 <;> cases P 2 <;> cases P 3 <;> decide +kernel
theorem bs4_or {P Q : Nat → Bool} : bs P 4 0 0 ||| bs Q 4 0 0 = bs (fun p => P p || Q p) 4 0 0 := by
  rw [bs4, bs4, bs4]
  cases P 0 <;> cases P 1 <;> cases P 2 <;> cases P 3 <;> cases Q 0 <;> cases Q 1 <;> cases Q 2 <;> cases Q 3 <;> rfl
section
variable {N : Nat} {A : Nat → Nat → Nat} {σ : XS}
/-- the wares that wait at a port of that rhyme -/
def cnW (A : Nat → Nat → Nat) (σ : XS) (r : Nat) : Nat := cn (fun a => decide (ftO σ a = 0) && decide (A 5 (A 7 a) = r)) (A 0 1) 0 0
def lf (A : Nat → Nat → Nat) (σ : XS) : Nat → Nat → Nat → Nat
  | 0, _, acc => acc
  | d + 1, r, acc => lf A σ d (r + 1) (acc + min (A 9 r - usO σ r) (cnW A σ r))
theorem cnW_c (hN : 10 ≤ N) (h : RA A σ) {r : Nat} (hr : r < 6) {v : Int32} {k : Int32 → XS → Option XO} : fX9_waresThatRhymesAllow_L15 N v (nI r) k N 0 0 σ = k (nI (cnW A σ r)) σ := by
  obtain ⟨a1, a2, a3⟩ := h.a
  have key : ∀ (d i m acc : Nat), i + d = A 0 1 → d < m → fX9_waresThatRhymesAllow_L15 N v (nI r) k m (nI acc) (nI i) σ = k (nI (cn (fun a => decide (ftO σ a = 0) && decide (A 5 (A 7 a) = r)) d i acc)) σ := by
    intro d
    induction d with
    | zero =>
      intro i m acc hi hm
      obtain ⟨m, rfl⟩ : ∃ q, m = q + 1 := ⟨m - 1, by omega⟩
      rw [fX9_waresThatRhymesAllow_L15, a1, if_pos (nI_le (by omega) (by omega))]; rfl
    | succ d ih =>
      intro i m acc hi hm
      obtain ⟨m, rfl⟩ : ∃ q, m = q + 1 := ⟨m - 1, by omega⟩
      obtain ⟨f1, f2, f3⟩ := h.ft (show i < 6 by omega)
      obtain ⟨⟨-, v1⟩, -, -, -, vb⟩ := h.ware (show i < A 0 1 by omega)
      obtain ⟨p1, -, pb⟩ := h.port (show A 7 i < 4 by omega)
      rw [fX9_waresThatRhymesAllow_L15, a1, if_neg (nI_ge (by omega) (by omega)), fate_n (by omega), xB_s, f2, isz (by omega)]
      have st : ∀ b : Bool, (decide (ftO σ i = 0) && decide (A 5 (A 7 i) = r)) = b → cn (fun a => decide (ftO σ a = 0) && decide (A 5 (A 7 a) = r)) (d + 1) i acc = cn (fun a => decide (ftO σ a = 0) && decide (A 5 (A 7 a) = r)) d (i + 1) (if b = true then acc + 1 else acc) := by
        intro b hb
        rw [← hb]; rfl
      by_cases q : ftO σ i = 0
      · rw [if_pos q, at_n (len := 6) rfl (by omega) (by decide), xB_s, v1]
        unfold fX8_rhymeOfPort
        rw [at_n (len := 4) rfl (by omega) (by decide), xB_s, xB_s, p1]
        by_cases z : A 5 (A 7 i) = r
        · rw [if_pos (by rw [z]), nI_1, nI_1, ih (i + 1) m _ (by omega) (by omega), st true (by rw [decide_eq_true q, decide_eq_true z]; rfl)]; rfl
        · rw [if_neg (by rw [nI_eq (by omega) (by omega)]; exact z), nI_1, ih (i + 1) m _ (by omega) (by omega), st false (by rw [decide_eq_true q, decide_eq_false z]; rfl)]; rfl
      · rw [if_neg q, nI_1, ih (i + 1) m _ (by omega) (by omega), st false (by rw [decide_eq_false q]; rfl)]; rfl
  exact key (A 0 1) 0 N 0 (by omega) (by omega)
theorem cnW_m (hN : 10 ≤ N) (h : RA A σ) {r : Nat} (hr : r < 6) {v1 v2 v3 v5 : Int32} {k : Int32 → XS → Option XO} : fX10_left_L56 N v1 v2 v3 (nI r) v5 k N 0 0 σ = k (nI (cnW A σ r)) σ := by
  obtain ⟨a1, a2, a3⟩ := h.a
  have key : ∀ (d i m acc : Nat), i + d = A 0 1 → d < m → fX10_left_L56 N v1 v2 v3 (nI r) v5 k m (nI acc) (nI i) σ = k (nI (cn (fun a => decide (ftO σ a = 0) && decide (A 5 (A 7 a) = r)) d i acc)) σ := by
    intro d
    induction d with
    | zero =>
      intro i m acc hi hm
      obtain ⟨m, rfl⟩ : ∃ q, m = q + 1 := ⟨m - 1, by omega⟩
      rw [fX10_left_L56, xin198, gd_t, c1, a2, if_pos (nI_le (by omega) (by omega))]; rfl
    | succ d ih =>
      intro i m acc hi hm
      obtain ⟨m, rfl⟩ : ∃ q, m = q + 1 := ⟨m - 1, by omega⟩
      obtain ⟨f1, f2, f3⟩ := h.ft (show i < 6 by omega)
      obtain ⟨-, ⟨-, v1⟩, -, -, vb⟩ := h.ware (show i < A 0 1 by omega)
      obtain ⟨-, p1, pb⟩ := h.port (show A 7 i < 4 by omega)
      have st : ∀ b : Bool, (decide (ftO σ i = 0) && decide (A 5 (A 7 i) = r)) = b → cn (fun a => decide (ftO σ a = 0) && decide (A 5 (A 7 a) = r)) (d + 1) i acc = cn (fun a => decide (ftO σ a = 0) && decide (A 5 (A 7 a) = r)) d (i + 1) (if b = true then acc + 1 else acc) := by
        intro b hb
        rw [← hb]; rfl
      rw [fX10_left_L56, xin198, gd_t, c1, a2, if_neg (nI_ge (by omega) (by omega)), z48, xin_t (by omega) (by decide), gd_t, nI_clamp (by omega), f3, isz (by omega)]
      by_cases q : ftO σ i = 0
      · rw [if_pos q, z47, xin_t (by omega) (by decide), gd_t, nI_clamp (by omega), v1, show (42 : Int32) = nI 42 from rfl, nI_add, xin_t (by omega) (by decide), gd_t, nI_clamp (by omega), p1]
        by_cases z : A 5 (A 7 i) = r
        · rw [if_pos (by rw [z]), nI_1, nI_1, ih (i + 1) m _ (by omega) (by omega), st true (by rw [decide_eq_true q, decide_eq_true z]; rfl)]; rfl
        · rw [if_neg (by rw [nI_eq (by omega) (by omega)]; exact z), nI_1, Int32.add_zero, ih (i + 1) m _ (by omega) (by omega), st false (by rw [decide_eq_true q, decide_eq_false z]; rfl)]; rfl
      · rw [if_neg q, nI_1, Int32.add_zero, ih (i + 1) m _ (by omega) (by omega), st false (by rw [decide_eq_false q]; rfl)]; rfl
  exact key (A 0 1) 0 N 0 (by omega) (by omega)
theorem allow_c (hN : 10 ≤ N) (h : RA A σ) : fX9_waresThatRhymesAllow N σ = some (nI (lf A σ 6 0 0), σ) := by
  have key : ∀ (d i m acc : Nat), i + d = 6 → d < m → fX9_waresThatRhymesAllow_L4 N (fun x19 m20 => some (x19, m20)) m (nI acc) (nI i) σ = some (nI (lf A σ d i acc), σ) := by
    intro d
    induction d with
    | zero =>
      intro i m acc hi hm
      obtain ⟨m, rfl⟩ : ∃ q, m = q + 1 := ⟨m - 1, by omega⟩
      rw [fX9_waresThatRhymesAllow_L4, l6, if_pos (nI_le (by omega) (by omega))]; rfl
    | succ d ih =>
      intro i m acc hi hm
      obtain ⟨m, rfl⟩ : ∃ q, m = q + 1 := ⟨m - 1, by omega⟩
      obtain ⟨f1, f2, f3, f4, f5, f6⟩ := h.us (show i < 6 by omega)
      have hcn : cnW A σ i ≤ 0 + A 0 1 := cn_le _ _ _
      have a3 := h.a.2.2
      rw [fX9_waresThatRhymesAllow_L4, l6, if_neg (nI_ge (by omega) (by omega)), cnW_c hN h (by omega), at_n (len := 6) rfl (by omega) (by decide), xB_s, uses_n (by omega), xB_s, f3, f5, pk_sub (by omega), pos0 (by omega), min_lt (by omega) (by omega), nI_add, xLetI_e, nI_1, ih (i + 1) m _ (by omega) (by omega)]
      rfl
  exact key 6 0 N 0 (by omega) (by omega)
theorem worn_c (hN : 10 ≤ N) (h : RA A σ) : fX9_portsWornOut N σ = some (bs (fun p => decide (usO σ (A 5 p) = A 9 (A 5 p))) 4 0 0, σ) := by
  have key : ∀ (d i m : Nat) (acc : Int32), i + d = 4 → d < m → fX9_portsWornOut_L4 N (fun x11 m12 => some (x11, m12)) m acc (nI i) σ = some (bs (fun p => decide (usO σ (A 5 p) = A 9 (A 5 p))) d i acc, σ) := by
    intro d
    induction d with
    | zero =>
      intro i m acc hi hm
      obtain ⟨m, rfl⟩ : ∃ q, m = q + 1 := ⟨m - 1, by omega⟩
      rw [fX9_portsWornOut_L4, l4, if_pos (nI_le (by omega) (by omega))]; rfl
    | succ d ih =>
      intro i m acc hi hm
      obtain ⟨m, rfl⟩ : ∃ q, m = q + 1 := ⟨m - 1, by omega⟩
      obtain ⟨p1, -, pb⟩ := h.port (show i < 4 by omega)
      obtain ⟨f1, f2, f3, f4, f5, f6⟩ := h.us (show A 5 i < 6 by omega)
      have hw : fX8_isWorn N σ (nI (A 5 i)) (nI (usO σ (A 5 i))) = some (b2i (decide (usO σ (A 5 i) = A 9 (A 5 i))), σ) := by
        unfold fX8_isWorn
        rw [if_neg (ne1 (by omega)), at_n (len := 6) rfl (by omega) (by decide), xB_s, f5]
        by_cases x : usO σ (A 5 i) < A 9 (A 5 i)
        · rw [if_pos (nI_lt x (by omega)), decide_eq_false (by omega)]; rfl
        · rw [if_neg (nI_nlt (by omega) (by omega)), decide_eq_true (by omega)]; rfl
      rw [fX9_portsWornOut_L4, l4, if_neg (nI_ge (by omega) (by omega))]
      unfold fX8_rhymeOfPort
      rw [at_n (len := 4) rfl (by omega) (by decide), xB_s, xB_s, p1, uses_n (by omega), xB_s, f3, hw, xB_s, b2i0]
      by_cases q : usO σ (A 5 i) = A 9 (A 5 i)
      · rw [if_pos (decide_eq_true q), xLetI_e, nI_1, ih (i + 1) m _ (by omega) (by omega)]
        show _ = some (bs _ d (i + 1) (if decide (usO σ (A 5 i) = A 9 (A 5 i)) = true then _ else _), σ)
        rw [decide_eq_true q]; rfl
      · rw [if_neg (by simpa using q), nI_1, ih (i + 1) m _ (by omega) (by omega)]
        show _ = some (bs _ d (i + 1) (if decide (usO σ (A 5 i) = A 9 (A 5 i)) = true then _ else _), σ)
        rw [decide_eq_false q]; rfl
  exact key 4 0 N 0 rfl (by omega)
theorem left_m (hN : 10 ≤ N) (h : RA A σ) {v : Int32} {k : Int32 → Int32 → XS → Option XO} : fX10_left_L20 N v k N 0 0 0 σ = k (bs (fun p => decide (usO σ (A 5 p) = A 9 (A 5 p))) 4 0 0) (nI (lf A σ 6 0 0)) σ := by
  have key : ∀ (d i m acc : Nat), i + d = 6 → d < m → fX10_left_L20 N v k m (bs (fun p => decide (usO σ (A 5 p) = A 9 (A 5 p)) && decide (A 5 p < i)) 4 0 0) (nI acc) (nI i) σ = k (bs (fun p => decide (usO σ (A 5 p) = A 9 (A 5 p))) 4 0 0) (nI (lf A σ d i acc)) σ := by
    intro d
    induction d with
    | zero =>
      intro i m acc hi hm
      obtain ⟨m, rfl⟩ : ∃ q, m = q + 1 := ⟨m - 1, by omega⟩
      rw [fX10_left_L20, l6, if_pos (nI_le (by omega) (by omega))]
      have e : bs (fun p => decide (usO σ (A 5 p) = A 9 (A 5 p)) && decide (A 5 p < i)) 4 0 0 = bs (fun p => decide (usO σ (A 5 p) = A 9 (A 5 p))) 4 0 0 := bs_congr _ _ _ (fun j _ hj => by
        have := (h.port (show j < 4 by omega)).2.2
        show (_ && decide (A 5 j < i)) = _
        rw [decide_eq_true (show A 5 j < i by omega), Bool.and_true])
      rw [e]; rfl
    | succ d ih =>
      intro i m acc hi hm
      obtain ⟨m, rfl⟩ : ∃ q, m = q + 1 := ⟨m - 1, by omega⟩
      obtain ⟨f1, f2, f3, f4, f5, f6⟩ := h.us (show i < 6 by omega)
      have hcn : cnW A σ i ≤ 0 + A 0 1 := cn_le _ _ _
      have a3 := h.a.2.2
      have hJ : ∀ t : Int32, t = nI (min (A 9 i - usO σ i) (cnW A σ i)) → fX10_left_J142 N v (bs (fun p => decide (usO σ (A 5 p) = A 9 (A 5 p)) && decide (A 5 p < i)) 4 0 0) (nI i) (nI (A 9 i - usO σ i)) t (nI acc) (fX10_left_L20 N v k m) σ = k (bs (fun p => decide (usO σ (A 5 p) = A 9 (A 5 p))) 4 0 0) (nI (lf A σ (d + 1) i acc)) σ := by
        rintro t rfl
        unfold fX10_left_J142
        rw [isz (by omega), nI_add, nI_1, ports_m hN, xB_s]
        have e2 : bs (fun p => decide (σ 86 (42 + p) = nI i)) 4 0 0 = bs (fun p => decide (A 5 p = i)) 4 0 0 := bs_congr _ _ _ (fun j _ hj => by
          obtain ⟨-, q1, q2⟩ := h.port (show j < 4 by omega)
          rw [q1]
          exact decide_eq_decide.mpr (nI_eq (by omega) (by omega)))
        by_cases q : A 9 i - usO σ i = 0
        · rw [if_pos q, e2, bs4_or]
          have e : bs (fun p => (decide (usO σ (A 5 p) = A 9 (A 5 p)) && decide (A 5 p < i)) || decide (A 5 p = i)) 4 0 0 = bs (fun p => decide (usO σ (A 5 p) = A 9 (A 5 p)) && decide (A 5 p < i + 1)) 4 0 0 := bs_congr _ _ _ (fun j _ hj => by
            show ((_ && decide (A 5 j < i)) || decide (A 5 j = i)) = (_ && decide (A 5 j < i + 1))
            by_cases z : A 5 j = i
            · rw [decide_eq_true z, decide_eq_true (show A 5 j < i + 1 by omega), Bool.or_true, Bool.and_true, z, decide_eq_true (by omega)]
            · rw [decide_eq_false z, Bool.or_false]
              congr 1
              exact decide_eq_decide.mpr (by omega))
          rw [e, ih (i + 1) m _ (by omega) (by omega)]; rfl
        · rw [if_neg q, or0]
          have e : bs (fun p => decide (usO σ (A 5 p) = A 9 (A 5 p)) && decide (A 5 p < i)) 4 0 0 = bs (fun p => decide (usO σ (A 5 p) = A 9 (A 5 p)) && decide (A 5 p < i + 1)) 4 0 0 := bs_congr _ _ _ (fun j _ hj => by
            show (_ && decide (A 5 j < i)) = (_ && decide (A 5 j < i + 1))
            by_cases z : A 5 j = i
            · rw [z, decide_eq_false (show ¬ usO σ i = A 9 i by omega)]; rfl
            · congr 1
              exact decide_eq_decide.mpr (by omega))
          rw [e, ih (i + 1) m _ (by omega) (by omega)]; rfl
      rw [fX10_left_L20, l6, if_neg (nI_ge (by omega) (by omega)), show (73 : Int32) = nI 73 from rfl, show (67 : Int32) = nI 67 from rfl, nI_add, nI_add, xin_t (by omega) (by decide), xin_t (by omega) (by decide), gd_t, gd_t, nI_clamp (by omega), nI_clamp (by omega), f4, f6, pk_sub (by omega), xLetI_e, cnW_m hN h (by omega)]
      by_cases q : A 9 i - usO σ i ≤ cnW A σ i
      · rw [if_pos (nI_le q (by omega))]
        exact hJ _ (by rw [Nat.min_eq_left q])
      · rw [if_neg (nI_ge (by omega) (by omega))]
        exact hJ _ (by rw [Nat.min_eq_right (by omega)])
  have e : bs (fun p => decide (usO σ (A 5 p) = A 9 (A 5 p)) && decide (A 5 p < 0)) 4 0 0 = 0 := by
    have e2 : bs (fun p => decide (usO σ (A 5 p) = A 9 (A 5 p)) && decide (A 5 p < 0)) 4 0 0 = bs (fun _ => false) 4 0 0 := bs_congr _ _ _ (fun j _ hj => by
      show (_ && decide (A 5 j < 0)) = false
      rw [decide_eq_false (show ¬ A 5 j < 0 by omega), Bool.and_false])
    rw [e2]; rfl
  have := key 6 0 N 0 rfl (by omega)
  rw [e] at this
  exact this
end
theorem sim_left {N : Nat} (hN : 10 ≤ N) : Sim28 N RR := by
  intro σ a hR
  obtain ⟨A, h⟩ := id hR
  rcases or_assoc.mpr (icase a 2 (by decide)) with ha | ⟨j, hj, rfl⟩
  · refine sim_mk (f := fun σ => fX9_left N σ a) (g := fun σ => fX10_left N σ a) (-3) σ σ ?_ ?_ hR
    · show fX9_left N σ a = _
      unfold fX9_left
      rw [l0, l1, if_neg (out_ne ha (by decide) (by decide)), if_neg (out_ne ha (by decide) (by decide))]
    · show fX10_left N σ a = _
      unfold fX10_left
      rw [show (1 : Int64) = (nI 2 - 1).toInt64 from rfl, ref_test (by decide), xB_s, ite1, if_neg (out_ex ha (by decide))]
  · have hm : fX10_left N σ (nI j) = if nI j = 0 then some (nI (lf A σ 6 0 0), σ) else some (bs (fun p => decide (usO σ (A 5 p) = A 9 (A 5 p))) 4 0 0, σ) := by
      unfold fX10_left
      rw [show (1 : Int64) = (nI 2 - 1).toInt64 from rfl, ref_test (by decide), xB_s, ite1, if_pos ⟨j, hj, rfl⟩, left_m hN h]
    rcases (show j = 0 ∨ j = 1 by omega) with rfl | rfl
    · refine sim_mk (f := fun σ => fX9_left N σ (nI 0)) (g := fun σ => fX10_left N σ (nI 0)) _ σ σ ?_ hm hR
      show fX9_left N σ (nI 0) = _
      unfold fX9_left
      rw [if_pos (by rfl), allow_c hN h, xB_s]
    · refine sim_mk (f := fun σ => fX9_left N σ (nI 1)) (g := fun σ => fX10_left N σ (nI 1)) _ σ σ ?_ hm hR
      show fX9_left N σ (nI 1) = _
      unfold fX9_left
      rw [if_neg (by decide), if_pos (by rfl), worn_c hN h, xB_s]
