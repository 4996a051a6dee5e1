/-! SETS by bits; RHYME, AS, CLERKAS, COUNT -/
def bs (P : Nat → Bool) : Nat → Nat → Int32 → Int32
  | 0, _, acc => acc
  | d + 1, i, acc => bs P d (i + 1) (if P i = true then acc ||| (1 <<< (nI i &&& 31)) else acc)
theorem bs_congr {P Q : Nat → Bool} : ∀ d i acc, (∀ j, i ≤ j → j < i + d → P j = Q j) → bs P d i acc = bs Q d i acc := by
  intro d
  induction d with
  | zero => intro i acc _; rfl
  | succ d ih =>
    intro i acc h
    show bs P d (i + 1) _ = bs Q d (i + 1) _
    rw [h i (Nat.le_refl _) (by omega)]
    exact ih _ _ (fun j h1 h2 => h j (by omega) (by omega))
section
variable {N : Nat} {A : Nat → Nat → Nat} {σ : XS}
theorem or0 (x : Int32) : x ||| 0 = x := by
  apply Int32.toBitVec_inj.mp
  rw [Int32.toBitVec_or]
  simp
theorem ports_c (hN : 10 ≤ N) {v : Int32} : fX8_portsOf N σ v = some (bs (fun p => decide (σ 6 p = v)) 4 0 0, σ) := by
  have key : ∀ (d i m : Nat) (acc : Int32), i + d = 4 → d < m → fX8_portsOf_L4 N v (fun x2 m3 => some (x2, m3)) m acc (nI i) σ = some (bs (fun p => decide (σ 6 p = v)) d i acc, σ) := by
    intro d
    induction d with
    | zero =>
      intro i m acc hi hm
      obtain ⟨m, rfl⟩ : ∃ q, m = q + 1 := ⟨m - 1, by omega⟩
      rw [fX8_portsOf_L4, l4, if_pos (nI_le (by omega) (by omega))]; rfl
    | succ d ih =>
      intro i m acc hi hm
      obtain ⟨m, rfl⟩ : ∃ q, m = q + 1 := ⟨m - 1, by omega⟩
      rw [fX8_portsOf_L4, l4, if_neg (nI_ge (by omega) (by omega)), xin_t (by omega) (by decide), gd_t, nI_clamp (by omega)]
      by_cases q : σ 6 i = v
      · rw [if_pos q, xLetI_e, nI_1, ih (i + 1) m _ (by omega) (by omega)]
        show _ = some (bs _ d (i + 1) (if decide (σ 6 i = v) = true then _ else _), σ)
        rw [decide_eq_true q]; rfl
      · rw [if_neg q, nI_1, ih (i + 1) m _ (by omega) (by omega)]
        show _ = some (bs _ d (i + 1) (if decide (σ 6 i = v) = true then _ else _), σ)
        rw [decide_eq_false q]; rfl
  exact key 4 0 N 0 rfl (by omega)
theorem ports_m (hN : 10 ≤ N) {v : Int32} : fX10_portsOf N σ v = some (bs (fun p => decide (σ 86 (42 + p) = v)) 4 0 0, σ) := by
  have key : ∀ (d i m : Nat) (acc : Int32), i + d = 4 → d < m → fX10_portsOf_L4 N v (fun x2 m3 => some (x2, m3)) m acc (nI i) σ = some (bs (fun p => decide (σ 86 (42 + p) = v)) d i acc, σ) := by
    intro d
    induction d with
    | zero =>
      intro i m acc hi hm
      obtain ⟨m, rfl⟩ : ∃ q, m = q + 1 := ⟨m - 1, by omega⟩
      rw [fX10_portsOf_L4, l4, if_pos (nI_le (by omega) (by omega))]; rfl
    | succ d ih =>
      intro i m acc hi hm
      obtain ⟨m, rfl⟩ : ∃ q, m = q + 1 := ⟨m - 1, by omega⟩
      rw [fX10_portsOf_L4, l4, if_neg (nI_ge (by omega) (by omega)), show (42 : Int32) = nI 42 from rfl, nI_add, xin_t (by omega) (by decide), gd_t, nI_clamp (by omega)]
      by_cases q : σ 86 (42 + i) = v
      · rw [if_pos q, xLetI_e, nI_1, ih (i + 1) m _ (by omega) (by omega)]
        show _ = some (bs _ d (i + 1) (if decide (σ 86 (42 + i) = v) = true then _ else _), σ)
        rw [decide_eq_true q]; rfl
      · rw [if_neg q, nI_1, or0, ih (i + 1) m _ (by omega) (by omega)]
        show _ = some (bs _ d (i + 1) (if decide (σ 86 (42 + i) = v) = true then _ else _), σ)
        rw [decide_eq_false q]; rfl
  exact key 4 0 N 0 rfl (by omega)
theorem ports_eq (h : RA A σ) {v : Int32} : bs (fun p => decide (σ 86 (42 + p) = v)) 4 0 0 = bs (fun p => decide (σ 6 p = v)) 4 0 0 := bs_congr _ _ _ (fun j _ hj => by
  obtain ⟨e1, e2, -⟩ := h.port (p := j) (by omega)
  rw [e1, e2])
end
theorem sim_rhyme {N : Nat} (hN : 10 ≤ N) : Sim7 N RR := by
  intro σ a b hR
  obtain ⟨A, h⟩ := id hR
  rcases or_assoc.mpr (icase a 6 (by decide)) with ha | ⟨j, hj, rfl⟩
  · refine sim_mk (f := fun σ => fX9_rhyme N σ a b) (g := fun σ => fX10_rhyme N σ a b) (-2) σ σ ?_ ?_ hR
    · show fX9_rhyme N σ a b = _
      unfold fX9_rhyme
      by_cases h0 : a < 0
      · rw [if_pos h0]
      · rw [if_neg h0, if_neg (by rcases ha with q | q; exact absurd q h0; exact Int32.not_lt.mpr q)]
    · show fX10_rhyme N σ a b = _
      unfold fX10_rhyme
      rw [show (5 : Int64) = (nI 6 - 1).toInt64 from rfl, ref_test (by decide), xB_s, ite1, if_neg (out_ex ha (by decide))]
  · obtain ⟨e1, e2, e3⟩ := h.can hj
    obtain ⟨n, f1, f2, f3⟩ := h.used hj
    have hc : ∀ T : Option XO, (if nI j < 0 then some ((-2 : Int32), σ) else if nI j < 6 then T else some (-2, σ)) = T := fun T => by rw [if_neg (nI_pos (by omega)), l6, if_pos (nI_lt hj (by decide))]
    have hm0 : fX10_rhyme N σ (nI j) b = fX10_rhyme_J40 N (nI j) b (if b = 0 then nI n else nI (A 9 j)) σ := by
      unfold fX10_rhyme
      rw [show (5 : Int64) = (nI 6 - 1).toInt64 from rfl, ref_test (by decide), xB_s, ite1, if_pos ⟨j, hj, rfl⟩, show (67 : Int32) = nI 67 from rfl, show (73 : Int32) = nI 73 from rfl, nI_add, nI_add, xin_t (by omega) (by decide), xin_t (by omega) (by decide), gd_t, gd_t, nI_clamp (by omega), nI_clamp (by omega), f3, e2]
      by_cases q : b = 0
      · rw [if_pos q, if_pos q]
      · rw [if_neg q, if_neg q]
    rcases or_assoc.mpr (icase b 3 (by decide)) with hb | ⟨k, hk, rfl⟩
    · refine sim_mk (f := fun σ => fX9_rhyme N σ (nI j) b) (g := fun σ => fX10_rhyme N σ (nI j) b) (-3) σ σ ?_ ?_ hR
      · show fX9_rhyme N σ (nI j) b = _
        unfold fX9_rhyme
        rw [hc, l0, l1, l2, if_neg (out_ne hb (by decide) (by decide)), if_neg (out_ne hb (by decide) (by decide)), if_neg (out_ne hb (by decide) (by decide))]
      · show fX10_rhyme N σ (nI j) b = _
        rw [hm0]
        unfold fX10_rhyme_J40
        rw [show (2 : Int64) = (nI 3 - 1).toInt64 from rfl, ref_test (by decide), xB_s, ite1, if_neg (out_ex hb (by decide))]
    · have hm1 : ∀ t : Int32, fX10_rhyme_J40 N (nI j) (nI k) t σ = if nI k = 2 then some (bs (fun p => decide (σ 6 p = nI j)) 4 0 0, σ) else some (t, σ) := by
        intro t
        unfold fX10_rhyme_J40
        rw [show (2 : Int64) = (nI 3 - 1).toInt64 from rfl, ref_test (by decide), xB_s, ite1, if_pos ⟨k, hk, rfl⟩, ports_m hN, xB_s, ports_eq h]
      rcases (show k = 0 ∨ k = 1 ∨ k = 2 by omega) with rfl | rfl | rfl
      · refine sim_mk (f := fun σ => fX9_rhyme N σ (nI j) (nI 0)) (g := fun σ => fX10_rhyme N σ (nI j) (nI 0)) (nI n) σ σ ?_ ?_ hR
        · show fX9_rhyme N σ (nI j) (nI 0) = _
          unfold fX9_rhyme
          rw [hc, if_pos (by rfl), uses_n hj, xB_s, f2]
        · show fX10_rhyme N σ (nI j) (nI 0) = _
          rw [hm0, hm1]; rfl
      · refine sim_mk (f := fun σ => fX9_rhyme N σ (nI j) (nI 1)) (g := fun σ => fX10_rhyme N σ (nI j) (nI 1)) (nI (A 9 j)) σ σ ?_ ?_ hR
        · show fX9_rhyme N σ (nI j) (nI 1) = _
          unfold fX9_rhyme
          rw [hc, if_neg (by decide), if_pos (by rfl), at_n (len := 6) rfl hj (by decide), xB_s, e1]
        · show fX10_rhyme N σ (nI j) (nI 1) = _
          rw [hm0, hm1]; rfl
      · refine sim_mk (f := fun σ => fX9_rhyme N σ (nI j) (nI 2)) (g := fun σ => fX10_rhyme N σ (nI j) (nI 2)) (bs (fun p => decide (σ 6 p = nI j)) 4 0 0) σ σ ?_ ?_ hR
        · show fX9_rhyme N σ (nI j) (nI 2) = _
          unfold fX9_rhyme
          rw [hc, if_neg (by decide), if_neg (by decide), if_pos (by rfl), ports_c hN, xB_s]
        · show fX10_rhyme N σ (nI j) (nI 2) = _
          rw [hm0, hm1]; rfl
/-! taken as a kind -/
def isW (t k : Nat) : Bool := decide (k = 0) || (decide (k = 1) && decide (t < 2)) || (decide (k = 2) && decide (t = 1)) || (decide (k = 3) && decide (2 ≤ t)) || (decide (k = 4) && decide (t = 3))
def isC (t k : Nat) : Bool := decide (k = 0) || (decide (k = 1) && decide (t ≠ 1)) || (decide (k = 2) && decide (t = 1)) || (decide (k = 3) && decide (t = 2))
theorem bitW : ∀ t, t < 4 → ∀ k, k < 5 → decide ((((([3, 7, 9, 25] : List Int32).getD t 0) >>> (nI k &&& 31)) &&& 1) = 1) = isW t k := by decide +kernel
theorem bitC : ∀ t, t < 3 → ∀ k, k < 4 → decide ((((([3, 5, 11] : List Int32).getD t 0) >>> (nI k &&& 31)) &&& 1) = 1) = isC t k := by decide +kernel
section
variable {N : Nat} {A : Nat → Nat → Nat} {σ : XS}
theorem bit_w {t k : Nat} (ht : t < 4) (hk : k < 5) : xB (fatW N σ 200 (nI t)) (fun y7 m8 => fX9_hasBit N m8 y7 (nI k)) = some (b2i (isW t k), σ) := by
  unfold fatW
  rw [show (xkrow 200) = [3, 7, 9, 25] from rfl, show ([3, 7, 9, 25] : List Int32).length = 4 from rfl, if_neg (nI_pos (by omega)), if_neg (nI_ge ht (by decide)), xin_t ht (by decide), gd_t, nI_clamp (by omega), xB_s]
  unfold fX9_hasBit
  rw [← bitW t ht k hk]
  by_cases q : ((([3, 7, 9, 25] : List Int32).getD t 0) >>> (nI k &&& 31)) &&& 1 = 1
  · rw [if_pos q, decide_eq_true q]; rfl
  · rw [if_neg q, decide_eq_false q]; rfl
theorem bit_c {t k : Nat} (ht : t < 3) (hk : k < 4) : xB (fatW N σ 201 (nI t)) (fun y7 m8 => fX9_hasBit N m8 y7 (nI k)) = some (b2i (isC t k), σ) := by
  unfold fatW
  rw [show (xkrow 201) = [3, 5, 11] from rfl, show ([3, 5, 11] : List Int32).length = 3 from rfl, if_neg (nI_pos (by omega)), if_neg (nI_ge ht (by decide)), xin_t ht (by decide), gd_t, nI_clamp (by omega), xB_s]
  unfold fX9_hasBit
  rw [← bitC t ht k hk]
  by_cases q : ((([3, 5, 11] : List Int32).getD t 0) >>> (nI k &&& 31)) &&& 1 = 1
  · rw [if_pos q, decide_eq_true q]; rfl
  · rw [if_neg q, decide_eq_false q]; rfl
theorem xB_assoc {a : Option XO} {f g : Int32 → XS → Option XO} : xB a (fun r m => xB (f r m) g) = xB (xB a f) g := by cases a <;> rfl
theorem as_chain {p : Int32} {t k : Nat} (ht : t < 4) (hk : k < 5) : (if nI k = 1 then if nI t < 2 then fX10_as_J52 N p (nI k) (nI t) σ else fX10_as_J42 N p (nI k) (nI t) σ else fX10_as_J42 N p (nI k) (nI t) σ) = fX10_as_J93 N p (nI t) (b2i (isW t k)) σ := by
  rcases (show t = 0 ∨ t = 1 ∨ t = 2 ∨ t = 3 by omega) with rfl | rfl | rfl | rfl <;> rcases (show k = 0 ∨ k = 1 ∨ k = 2 ∨ k = 3 ∨ k = 4 by omega) with rfl | rfl | rfl | rfl | rfl <;> rfl
theorem cas_chain {t k : Nat} (ht : t < 3) (hk : k < 4) : (if nI k = 0 then fX10_clerkAs_J70 N (nI t) σ else if nI k = 1 then if nI t = 1 then fX10_clerkAs_J50 N (nI k) (nI t) σ else fX10_clerkAs_J70 N (nI t) σ else fX10_clerkAs_J50 N (nI k) (nI t) σ) = fX10_clerkAs_J75 N (nI t) (b2i (isC t k)) σ := by
  rcases (show t = 0 ∨ t = 1 ∨ t = 2 by omega) with rfl | rfl | rfl <;> rcases (show k = 0 ∨ k = 1 ∨ k = 2 ∨ k = 3 by omega) with rfl | rfl | rfl | rfl <;> rfl
end
theorem sim_as {N : Nat} (hN : 10 ≤ N) : Sim8 N RR := by
  intro σ a b hR
  obtain ⟨A, h⟩ := id hR
  obtain ⟨w1, w2, w3⟩ := h.w
  by_cases q : ∃ j, j < A 0 0 ∧ a = nI j
  · obtain ⟨j, hj, rfl⟩ := id q
    obtain ⟨-, ⟨g1, -, -, g4⟩, ⟨k1, -, -, -, -, k5⟩⟩ := h.word hj
    rcases or_assoc.mpr (icase b 5 (by decide)) with hb | ⟨k, hk, rfl⟩
    · refine sim_mk (f := fun σ => fX9_as N σ (nI j) b) (g := fun σ => fX10_as N σ (nI j) b) (-3) σ σ ?_ ?_ hR
      · show fX9_as N σ (nI j) b = _
        unfold fX9_as
        rw [isWord_c w1 (by omega), xB_s, ite1, if_pos q]
        by_cases h0 : b < 0
        · rw [if_pos h0]
        · rw [if_neg h0, if_neg (by rcases hb with z | z; exact absurd z h0; exact Int32.not_lt.mpr z)]
      · show fX10_as N σ (nI j) b = _
        unfold fX10_as
        rw [isWord_m w2 (by omega), xB_s, ite1, if_pos q, show (4 : Int64) = (nI 5 - 1).toInt64 from rfl, ref_test (by decide), xB_s, ite1, if_neg (out_ex hb (by decide))]
    · have hm : fX10_as N σ (nI j) (nI k) = fX10_as_J93 N (nI j) (nI (A 1 j)) (b2i (isW (A 1 j) k)) σ := by
        unfold fX10_as
        rw [isWord_m w2 (by omega), xB_s, ite1, if_pos q, show (4 : Int64) = (nI 5 - 1).toInt64 from rfl, ref_test (by decide), xB_s, ite1, if_pos ⟨k, hk, rfl⟩, kindOf_m h.tm h.tw hj, xB_s]
        exact as_chain (by omega) hk
      have hc : fX9_as N σ (nI j) (nI k) = if isW (A 1 j) k = true then xB (fX8_portsRhymedBy N σ (nI j)) (fun y13 m14 => some (y13, m14)) else some (-4, σ) := by
        unfold fX9_as
        rw [isWord_c w1 (by omega), xB_s, ite1, if_pos q, if_neg (nI_pos (by omega)), l5, if_pos (nI_lt hk (by decide)), kind_at h.tc h.tw hj, xB_s, xB_assoc, bit_w (by omega) hk, xB_s, b2i0]
      by_cases z : isW (A 1 j) k = true
      · have hp : fX8_portsRhymedBy N σ (nI j) = some (if A 1 j = 2 then 15 else bs (fun p => decide (σ 6 p = nI (A 4 j))) 4 0 0, σ) := by
          unfold fX8_portsRhymedBy
          rw [kind_at h.tc h.tw hj, xB_s]
          by_cases e : A 1 j = 2
          · rw [e, if_pos (by rfl), if_pos (by rfl)]
          · rw [if_neg (by rw [l2, nI_eq (by omega) (by omega)]; exact e), rhy_at h.tc h.tw hj, xB_s, ports_c hN, xB_s, if_neg e]
        refine sim_mk (f := fun σ => fX9_as N σ (nI j) (nI k)) (g := fun σ => fX10_as N σ (nI j) (nI k)) (if A 1 j = 2 then 15 else bs (fun p => decide (σ 6 p = nI (A 4 j))) 4 0 0) σ σ ?_ ?_ hR
        · show fX9_as N σ (nI j) (nI k) = _
          rw [hc, if_pos z, hp, xB_s]
        · show fX10_as N σ (nI j) (nI k) = _
          rw [hm, z]
          unfold fX10_as_J93
          rw [if_neg (by decide)]
          by_cases e : A 1 j = 2
          · rw [e, if_pos (by rfl), if_pos (by rfl)]
          · rw [if_neg (by rw [l2, nI_eq (by omega) (by omega)]; exact e), l6, l4, pk_mul, nI_add, l3, nI_add, xin_t (by omega) (by decide), gd_t, nI_clamp (by omega), g4, ports_m hN, xB_s, ports_eq h, if_neg e]
      · refine sim_mk (f := fun σ => fX9_as N σ (nI j) (nI k)) (g := fun σ => fX10_as N σ (nI j) (nI k)) (-4) σ σ ?_ ?_ hR
        · show fX9_as N σ (nI j) (nI k) = _
          rw [hc, if_neg z]
        · show fX10_as N σ (nI j) (nI k) = _
          rw [Bool.not_eq_true] at z
          rw [hm, z]; rfl
  · refine sim_mk (f := fun σ => fX9_as N σ a b) (g := fun σ => fX10_as N σ a b) (-2) σ σ ?_ ?_ hR
    · show fX9_as N σ a b = _
      unfold fX9_as
      rw [isWord_c w1 (by omega), xB_s, ite1, if_neg q]
    · show fX10_as N σ a b = _
      unfold fX10_as
      rw [isWord_m w2 (by omega), xB_s, ite1, if_neg q]
theorem sim_clerkAs {N : Nat} (hN : 10 ≤ N) : Sim9 N RR := by
  intro σ a b hR
  obtain ⟨A, h⟩ := id hR
  obtain ⟨w1, w2, w3⟩ := h.c
  obtain ⟨n, l, n1, n2, n3, hC, hM⟩ := h.line
  by_cases q : ∃ j, j < A 0 2 ∧ a = nI j
  · obtain ⟨j, hj, rfl⟩ := id q
    obtain ⟨e1, e2, e3⟩ := h.clerk hj
    rcases or_assoc.mpr (icase b 4 (by decide)) with hb | ⟨k, hk, rfl⟩
    · refine sim_mk (f := fun σ => fX9_clerkAs N σ (nI j) b) (g := fun σ => fX10_clerkAs N σ (nI j) b) (-3) σ σ ?_ ?_ hR
      · show fX9_clerkAs N σ (nI j) b = _
        unfold fX9_clerkAs
        rw [isClerk_c w1 (by omega), xB_s, ite1, if_pos q]
        by_cases h0 : b < 0
        · rw [if_pos h0]
        · rw [if_neg h0, if_neg (by rcases hb with z | z; exact absurd z h0; exact Int32.not_lt.mpr z)]
      · show fX10_clerkAs N σ (nI j) b = _
        unfold fX10_clerkAs
        rw [isClerk_m w2 (by omega), xB_s, ite1, if_pos q, show (3 : Int64) = (nI 4 - 1).toInt64 from rfl, ref_test (by decide), xB_s, ite1, if_neg (out_ex hb (by decide))]
    · have hm : fX10_clerkAs N σ (nI j) (nI k) = fX10_clerkAs_J75 N (nI (A 8 j)) (b2i (isC (A 8 j) k)) σ := by
        unfold fX10_clerkAs
        rw [isClerk_m w2 (by omega), xB_s, ite1, if_pos q, show (3 : Int64) = (nI 4 - 1).toInt64 from rfl, ref_test (by decide), xB_s, ite1, if_pos ⟨k, hk, rfl⟩, show (64 : Int32) = nI 64 from rfl, nI_add, xin_t (by omega) (by decide), gd_t, nI_clamp (by omega), e2, xLetI_e]
        exact cas_chain (by omega) hk
      have hc : fX9_clerkAs N σ (nI j) (nI k) = if isC (A 8 j) k = true then xB (fX8_countBy N σ (nI j) 44) (fun y13 m14 => some (y13, m14)) else some (-4, σ) := by
        unfold fX9_clerkAs
        rw [isClerk_c w1 (by omega), xB_s, ite1, if_pos q, if_neg (nI_pos (by omega)), l4, if_pos (nI_lt hk (by decide)), clerk_at h.tc h.tw hj, xB_s, xB_assoc, bit_c (by omega) hk, xB_s, b2i0]
      by_cases z : isC (A 8 j) k = true
      · refine sim_mk (f := fun σ => fX9_clerkAs N σ (nI j) (nI k)) (g := fun σ => fX10_clerkAs N σ (nI j) (nI k)) (nI (cntS A (A 8 j) l n)) σ σ ?_ ?_ hR
        · show fX9_clerkAs N σ (nI j) (nI k) = _
          rw [hc, if_pos z, countBy_n hN hC hj, xB_s]
        · show fX10_clerkAs N σ (nI j) (nI k) = _
          rw [hm, z]
          unfold fX10_clerkAs_J75
          rw [if_neg (by decide), n3, counted_m hN hM (by omega), xB_s]
      · refine sim_mk (f := fun σ => fX9_clerkAs N σ (nI j) (nI k)) (g := fun σ => fX10_clerkAs N σ (nI j) (nI k)) (-4) σ σ ?_ ?_ hR
        · show fX9_clerkAs N σ (nI j) (nI k) = _
          rw [hc, if_neg z]
        · show fX10_clerkAs N σ (nI j) (nI k) = _
          rw [Bool.not_eq_true] at z
          rw [hm, z]; rfl
  · refine sim_mk (f := fun σ => fX9_clerkAs N σ a b) (g := fun σ => fX10_clerkAs N σ a b) (-2) σ σ ?_ ?_ hR
    · show fX9_clerkAs N σ a b = _
      unfold fX9_clerkAs
      rw [isClerk_c w1 (by omega), xB_s, ite1, if_neg q]
    · show fX10_clerkAs N σ a b = _
      unfold fX10_clerkAs
      rw [isClerk_m w2 (by omega), xB_s, ite1, if_neg q]
