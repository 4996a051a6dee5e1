/-! SHORTEST, FORALL -/
section
variable {N : Nat} {A : Nat → Nat → Nat} {σ τ : XS}
theorem kp_sr (h : ∀ a k, ¬ sr a → a ≠ 46 → τ a k = σ a k) : Kp σ τ := by
  intro a k q
  refine h a k (fun hs => ?_) (fun e => ?_)
  · unfold sr at hs
    rcases (show a = 47 ∨ a = 49 ∨ a = 50 ∨ a = 51 ∨ a = 52 ∨ a = 53 ∨ a = 54 ∨ a = 55 ∨ a = 57 ∨ a = 58 ∨ a = 59 ∨ a = 60 ∨ a = 61 ∨ a = 62 ∨ a = 63 by omega) with rfl | rfl | rfl | rfl | rfl | rfl | rfl | rfl | rfl | rfl | rfl | rfl | rfl | rfl | rfl <;> exact absurd (q.symm.trans (show lv _ _ = false from rfl)) (by decide)
  · subst e
    exact absurd (q.symm.trans (show lv _ _ = false from rfl)) (by decide)
theorem kp_s4 (h : ∀ a k, ¬ s4 a k → τ a k = σ a k) : Kp σ τ := by
  intro a k q
  refine h a k (fun hs => ?_)
  rcases hs with rfl | rfl | ⟨rfl, rfl⟩ <;> exact absurd (q.symm.trans (show lv _ _ = false from rfl)) (by decide)
theorem isz' {j : Nat} (hj : j < 2) {x y : Int32} : (if nI j = (0 : Int32) then x else y) = if j = 0 then x else y := by
  by_cases q : j = 0
  · rw [if_pos q, q]; exact if_pos rfl
  · rw [if_neg q, if_neg (by rw [l0, nI_eq (by omega) (by omega)]; exact q)]
theorem fom (hN : 10000 ≤ N) (h : RA A σ) {a : Nat} (ha : a < A 0 1) {Q : Nat → Bool} {ry : Nat} {sl st : Bool} {v : Int32} (hv : Ask1 A Q v) (hA : AsksN A (A 5 (A 7 a)) (A 0 2) Q ry sl st) (hQ : ∃ j, j < A 0 2 ∧ Q j = true) (hD : DK ry sl st τ) (h1 : τ 46 1 = nI (A 6 a)) (hf : ∀ a k, a ≠ 46 → τ a k = σ a k) {j : Nat} (hj : j < 2) :
    ∃ r y μ ρ, fX9_fewestOrHowMany N τ (nI j) = some (r, μ) ∧ Kp σ μ ∧ fX10_shortestOf N μ (nI a) v = some (y, ρ) ∧ Kp μ ρ ∧ (∀ k, μ 86 k = σ 86 k) ∧ (if y = -1 then -1 else if nI j = 0 then y else ρ 85 23) = r := by
  have hW := h.tw
  have w := hW.2.2.2.2.2.2.1 a ha
  have hC : TC A τ := h.tc.eq (fun a k g1 g2 => hf a k (by omega))
  generalize hn : shL (fun n c => lok A ry sl st c n 0 (A 6 a)) (A 0 0) 4 1 = n
  have nb : n ≤ 4 := by
    rw [← hn]
    unfold shL shL shL shL shL
    split
    · split
      · split
        · split <;> omega
        · omega
      · omega
    · omega
  obtain ⟨μ, m1, m2, m3, m4⟩ := fewest_c (N := N) (by omega) hC hW hD (by omega) h1 hn.symm
  have fin : ∀ ν : XS, (∀ a k, ¬ sr a → ν a k = τ a k) → (∀ r, fX9_fewestOrHowMany N τ (nI j) = some (r, ν) → (n = 0 → r = -1) → (n ≠ 0 → r = if j = 0 then nI n else nI (Fc (fun c => lok A ry sl st c n 0 (A 6 a)) (A 0 0 ^ n))) → ∃ r y μ ρ, fX9_fewestOrHowMany N τ (nI j) = some (r, μ) ∧ Kp σ μ ∧ fX10_shortestOf N μ (nI a) v = some (y, ρ) ∧ Kp μ ρ ∧ (∀ k, μ 86 k = σ 86 k) ∧ (if y = -1 then -1 else if nI j = 0 then y else ρ 85 23) = r) := by
    intro ν n1 r hr r1 r2
    have e86 : ∀ k, ν 86 k = σ 86 k := fun k => (n1 _ _ (by unfold sr; omega)).trans (hf _ _ (by omega))
    obtain ⟨ρ, q1, q2, q3⟩ := shortest_m (N := N) (σ := ν) (Q := Q) hN (h.tm.eqL hW (fun k _ => e86 k)) hW ha hv hA hQ hn.symm
    refine ⟨r, _, ν, ρ, hr, kp_sr (fun a k g1 g2 => (n1 a k g1).trans (hf a k g2)), q1, kp_s4 q3, e86, ?_⟩
    by_cases z : n = 0
    · rw [if_pos z, if_pos rfl, r1 z]
    · rw [if_neg z, if_neg (ne1 (by omega)), isz' hj, r2 z, (q2 z).1]
  have hfo : fX9_fewestOrHowMany N τ (nI j) = if nI j = 0 then some (if n = 0 then -1 else nI n, μ) else if (if n = 0 then (-1 : Int32) else nI n) = -1 then some (if n = 0 then -1 else nI n, μ) else xB (fX2_linesOf N μ (if n = 0 then -1 else nI n)) (fun y4 m5 => some (y4, m5)) := by
    unfold fX9_fewestOrHowMany
    rw [m1, xB_s]
  by_cases z : n = 0
  · rw [if_pos z, if_pos rfl, ite_self] at hfo
    exact fin μ m4 _ hfo (fun _ => rfl) (fun g => absurd z g)
  · rw [if_neg z, if_neg (ne1 (by omega))] at hfo
    by_cases y : j = 0
    · subst y
      rw [if_pos (by rfl)] at hfo
      exact fin μ m4 _ hfo (fun g => absurd g z) (fun _ => by rw [if_pos rfl])
    · rw [if_neg (by rw [l0, nI_eq (by omega) (by omega)]; exact y)] at hfo
      obtain ⟨ν, n1, n2⟩ := lines_c (N := N) (σ := μ) (n := n) (by omega) (hC.eq (fun a k g1 g2 => m4 a k (by unfold sr; omega))) hW ⟨m3.1, m3.2.1, m3.2.2.1, m3.2.2.2.1⟩ (show A 6 a ≤ 12 by omega) ((m4 _ _ (by unfold sr; omega)).trans h1) (by omega) (by omega)
      rw [n1, xB_s] at hfo
      exact fin ν (fun a k hs => (n2 a k hs).trans (m4 a k hs)) _ hfo (fun g => absurd g z) (fun _ => by rw [if_neg y])
end
theorem sim_shortest {N : Nat} (hN : 10000 ≤ N) : Sim22 N RR := by
  intro σ a b p hR
  obtain ⟨A, h⟩ := id hR
  obtain ⟨a1, a2, a3⟩ := h.a
  obtain ⟨c1', c2', c3'⟩ := h.c
  by_cases hx : (∃ j, j < A 0 1 ∧ a = nI j) ∧ ∃ j, j < A 0 2 ∧ b = nI j
  · obtain ⟨⟨i, hi, rfl⟩, c, hc, rfl⟩ := id hx
    rcases or_assoc.mpr (icase p 2 (by decide)) with hp | ⟨j, hj, rfl⟩
    · refine sim_mk (f := fun σ => fX9_shortest N σ (nI i) (nI c) p) (g := fun σ => fX10_shortest N σ (nI i) (nI c) p) (-3) σ σ ?_ ?_ hR
      · show fX9_shortest N σ (nI i) (nI c) p = _
        unfold fX9_shortest
        rw [areKnown_c a1 c1' (by omega) (by omega), xB_s, ite1, if_pos hx]
        by_cases h0 : p < 0
        · rw [if_pos h0]
        · have h2 : nI 2 ≤ p := by rcases hp with q | q; exact absurd q h0; exact q
          rw [if_neg h0, if_neg (fun q => absurd (Int32.le_trans h2 q) (by decide))]
      · show fX10_shortest N σ (nI i) (nI c) p = _
        unfold fX10_shortest
        rw [areBoth_m a2 c2' (by omega) (by omega), xB_s, ite1, if_pos hx, show (1 : Int64) = (nI 2 - 1).toInt64 from rfl, ref_test (by decide), xB_s, ite1, if_neg (out_ex hp (by decide))]
    · obtain ⟨τ, ry, sl, st, t1, t2, t3, t4, t5⟩ := ask_c (N := N) h.tc h.tw hi hc
      obtain ⟨r, y, μ, ρ, q1, q2, q3, q4, q5, q6⟩ := fom hN h hi (v := nI c) (Or.inr ⟨c, hc, rfl, fun _ => rfl⟩) t2 ⟨c, hc, decide_eq_true rfl⟩ t3 t4 t5 hj
      refine sim_kp (f := fun σ => fX9_shortest N σ (nI i) (nI c) (nI j)) (g := fun σ => fX10_shortest N σ (nI i) (nI c) (nI j)) (r := r) (σ1 := μ) (σ2 := ρ) hR ?_ ?_ q2 q4
      · show fX9_shortest N σ (nI i) (nI c) (nI j) = _
        unfold fX9_shortest
        rw [areKnown_c a1 c1' (by omega) (by omega), xB_s, ite1, if_pos hx, if_neg (nI_pos (by omega)), if_pos (show nI j ≤ 1 from nI_le (b := 1) (by omega) (by decide)), t1, xB_s, q1, xB_s]
      · show fX10_shortest N μ (nI i) (nI c) (nI j) = _
        unfold fX10_shortest
        rw [areBoth_m ((q5 _).trans a2) ((q5 _).trans c2') (by omega) (by omega), xB_s, ite1, if_pos hx, show (1 : Int64) = (nI 2 - 1).toInt64 from rfl, ref_test (by decide), xB_s, ite1, if_pos ⟨j, hj, rfl⟩, q3, xB_s, ← q6]
        by_cases z : y = -1
        · rw [if_pos z, if_pos z]
        · rw [if_neg z, if_neg z]
          by_cases x : nI j = 0
          · rw [if_pos x, if_pos x]
          · rw [if_neg x, if_neg x]
  · refine sim_mk (f := fun σ => fX9_shortest N σ a b p) (g := fun σ => fX10_shortest N σ a b p) (-2) σ σ ?_ ?_ hR
    · show fX9_shortest N σ a b p = _
      unfold fX9_shortest
      rw [areKnown_c a1 c1' (by omega) (by omega), xB_s, ite1, if_neg hx]
    · show fX10_shortest N σ a b p = _
      unfold fX10_shortest
      rw [areBoth_m a2 c2' (by omega) (by omega), xB_s, ite1, if_neg hx]
theorem sim_forAll {N : Nat} (hN : 10000 ≤ N) : Sim24 N RR := by
  intro σ a p hR
  obtain ⟨A, h⟩ := id hR
  obtain ⟨a1, a2, a3⟩ := h.a
  obtain ⟨c1', c2', c3'⟩ := h.c
  by_cases hx : ∃ j, j < A 0 1 ∧ a = nI j
  · obtain ⟨i, hi, rfl⟩ := id hx
    rcases or_assoc.mpr (icase p 2 (by decide)) with hp | ⟨j, hj, rfl⟩
    · refine sim_mk (f := fun σ => fX9_forAll N σ (nI i) p) (g := fun σ => fX10_forAll N σ (nI i) p) (-3) σ σ ?_ ?_ hR
      · show fX9_forAll N σ (nI i) p = _
        unfold fX9_forAll
        rw [isWare_c a1 (by omega), xB_s, ite1, if_pos hx]
        by_cases h0 : p < 0
        · rw [if_pos h0]
        · have h2 : nI 2 ≤ p := by rcases hp with q | q; exact absurd q h0; exact q
          rw [if_neg h0, if_neg (fun q => absurd (Int32.le_trans h2 q) (by decide))]
      · show fX10_forAll N σ (nI i) p = _
        unfold fX10_forAll
        rw [isWare_m a2 (by omega), xB_s, ite1, if_pos hx, show (1 : Int64) = (nI 2 - 1).toInt64 from rfl, ref_test (by decide), xB_s, ite1, if_neg (out_ex hp (by decide))]
    · have hc9 : fX9_forAll N σ (nI i) (nI j) = if A 0 2 = 0 then some (-4, σ) else xB (fX1_askForAll N σ (nI i)) (fun _ m5 => xB (fX9_fewestOrHowMany N m5 (nI j)) (fun y7 m8 => some (y7, m8))) := by
        unfold fX9_forAll
        rw [isWare_c a1 (by omega), xB_s, ite1, if_pos hx, if_neg (nI_pos (by omega)), if_pos (show nI j ≤ 1 from nI_le (b := 1) (by omega) (by decide)), c1', isz (by omega)]
      have hm9 : ∀ μ : XS, (∀ k, μ 86 k = σ 86 k) → fX10_forAll N μ (nI i) (nI j) = if A 0 2 = 0 then some (-4, μ) else xB (fX10_shortestOf N μ (nI i) (-1)) (fun y7 m8 => if y7 = (-1) then some ((-1), m8) else if nI j = 0 then some (y7, m8) else some ((m8 85 23), m8)) := by
        intro μ e
        unfold fX10_forAll
        rw [isWare_m ((e _).trans a2) (by omega), xB_s, ite1, if_pos hx, show (1 : Int64) = (nI 2 - 1).toInt64 from rfl, ref_test (by decide), xB_s, ite1, if_pos ⟨j, hj, rfl⟩, xin298, gd_t, c2, e, c2', isz (by omega)]
      by_cases z0 : A 0 2 = 0
      · refine sim_mk (f := fun σ => fX9_forAll N σ (nI i) (nI j)) (g := fun σ => fX10_forAll N σ (nI i) (nI j)) (-4) σ σ ?_ ?_ hR
        · show fX9_forAll N σ (nI i) (nI j) = _
          rw [hc9, if_pos z0]
        · show fX10_forAll N σ (nI i) (nI j) = _
          rw [hm9 σ (fun _ => rfl), if_pos z0]
      · obtain ⟨τ, ry, sl, st, t1, t2, t3, t4, t5⟩ := askAll_c (N := N) (by omega) h.tc h.tw hi
        obtain ⟨r, y, μ, ρ, q1, q2, q3, q4, q5, q6⟩ := fom hN h hi (v := -1) (Or.inl ⟨rfl, fun _ => rfl⟩) t2 ⟨0, by omega, rfl⟩ t3 t4 t5 hj
        refine sim_kp (f := fun σ => fX9_forAll N σ (nI i) (nI j)) (g := fun σ => fX10_forAll N σ (nI i) (nI j)) (r := r) (σ1 := μ) (σ2 := ρ) hR ?_ ?_ q2 q4
        · show fX9_forAll N σ (nI i) (nI j) = _
          rw [hc9, if_neg z0, t1, xB_s, q1, xB_s]
        · show fX10_forAll N μ (nI i) (nI j) = _
          rw [hm9 μ q5, if_neg z0, q3, xB_s, ← q6]
          by_cases z : y = -1
          · rw [if_pos z, if_pos z]
          · rw [if_neg z, if_neg z]
            by_cases x : nI j = 0
            · rw [if_pos x, if_pos x]
            · rw [if_neg x, if_neg x]
  · refine sim_mk (f := fun σ => fX9_forAll N σ a p) (g := fun σ => fX10_forAll N σ a p) (-2) σ σ ?_ ?_ hR
    · show fX9_forAll N σ a p = _
      unfold fX9_forAll
      rw [isWare_c a1 (by omega), xB_s, ite1, if_neg hx]
    · show fX10_forAll N σ a p = _
      unfold fX10_forAll
      rw [isWare_m a2 (by omega), xB_s, ite1, if_neg hx]
