section
variable {N : Nat} {A : Nat → Nat → Nat} {σ τ : XS} {ry : Nat} {sl st : Bool} {l : Nat → Nat} {n : Nat}
theorem changes_c (hN : 100 ≤ N) (hW : TW A) (hD : DK ry sl st σ) {wt : Nat} (hwt : wt ≤ 12) (h1 : σ 46 1 = nI wt) (hL : CLn A σ 44 n l) (n1 : 1 ≤ n) :
    ∃ τ, fX2_fewestChanges N σ = some (τ (49 + n) wt, τ) ∧ (∀ e, e ≤ n → ERow A ry sl st true (fun e => l (n - (e + 1))) e τ) ∧ DM ry sl st true τ ∧ ∀ a k, ¬ sr a → τ a k = σ a k := by
  have n6 := hL.2.2.2.1
  have key : ∀ (d m q : Nat) (τ : XS), m + d = n → d < q → (∀ a k, ¬ sr a → τ a k = σ a k) → τ 47 5 = b2i true → (∀ e, e ≤ m → ERow A ry sl st true (fun e => l (n - (e + 1))) e τ) → ∃ ρ, fX2_fewestChanges_L19 N (fun m7 => xB (fX2_leastAt N m7 (m7 44 1) 0 (m7 46 1)) (fun y8 m9 => some (y8, m9))) q (nI (m + 1)) τ = some (ρ (49 + n) wt, ρ) ∧ (∀ e, e ≤ n → ERow A ry sl st true (fun e => l (n - (e + 1))) e ρ) ∧ DM ry sl st true ρ ∧ ∀ a k, ¬ sr a → ρ a k = σ a k := by
    intro d
    induction d with
    | zero =>
      intro m q τ hm hq f1 f5 f2
      obtain ⟨q, rfl⟩ : ∃ r, q = r + 1 := ⟨q - 1, by omega⟩
      rw [show m = n by omega] at f2 ⊢
      rw [fX2_fewestChanges_L19, f1 44 1 (by unfold sr; omega), hL.2.2.1, if_pos (nI_lt (by omega) (by omega)), f1 46 1 (by unfold sr; omega), h1, show (0 : Int32) = nI 0 from rfl, leastAt_c (by omega) (by omega) (by omega), xB_s]
      exact ⟨τ, xo_e (congrArg (τ (49 + n)) (by omega)), f2, ⟨fun z => (f1 _ _ (by unfold sr; omega)).trans (hD.1 z), fun z => ⟨(hD.2.1 z).1, (f1 _ _ (by unfold sr; omega)).trans (hD.2.1 z).2⟩, (f1 _ _ (by unfold sr; omega)).trans hD.2.2.1, (f1 _ _ (by unfold sr; omega)).trans hD.2.2.2, f5⟩, f1⟩
    | succ d ih =>
      intro m q τ hm hq f1 f5 f2
      obtain ⟨q, rfl⟩ : ∃ r, q = r + 1 := ⟨q - 1, by omega⟩
      have hC' : TC A τ := hL.1.eq (fun a k g1 g2 => f1 a k (by unfold sr; omega))
      have hD' : DM ry sl st true τ := ⟨fun z => (f1 _ _ (by unfold sr; omega)).trans (hD.1 z), fun z => ⟨(hD.2.1 z).1, (f1 _ _ (by unfold sr; omega)).trans (hD.2.1 z).2⟩, (f1 _ _ (by unfold sr; omega)).trans hD.2.2.1, (f1 _ _ (by unfold sr; omega)).trans hD.2.2.2, f5⟩
      have hL' : LW A true (fun e => l (n - (e + 1))) m τ := fun _ => ⟨n, l, ⟨hC', hW, (f1 _ _ (by unfold sr; omega)).trans hL.2.2.1, n6, fun j hj => ⟨(hL.2.2.2.2 j hj).1, (f1 45 j (by unfold sr; omega)).trans (hL.2.2.2.2 j hj).2⟩⟩, by omega, rfl⟩
      obtain ⟨ρ, r1, r2, r3⟩ := fill_c (N := N) (d := m) hN hC' hW hD' (by omega) (f2 m (Nat.le_refl _)) hL'
      have fr : ∀ a k, ¬ sr a → ρ a k = σ a k := fun a k hs => by rw [r3 a k (by unfold sr at hs; omega) (by unfold sr at hs; omega)]; exact f1 a k hs
      rw [fX2_fewestChanges_L19, f1 44 1 (by unfold sr; omega), hL.2.2.1, if_neg (nI_nlt (by omega) (by omega)), r1, xB_s, nI_1]
      refine ih (m + 1) q ρ (by omega) (by omega) fr ((r3 _ _ (by omega) (by omega)).trans f5) (fun e he => ?_)
      by_cases z : e = m + 1
      · subst z; exact r2
      · intro p s g1 g2
        rw [r3 _ _ (by omega) (by omega), r3 _ _ (by omega) (by omega)]
        exact f2 e (by omega) p s g1 g2
  obtain ⟨τ, t1, t2, t3, t4⟩ := begin_c (N := N) (A := A) (σ := σ) (ry := ry) (sl := sl) (st := st) (alt := true) (lw := fun e => l (n - (e + 1))) hN
  have t1' : fX2_begin N σ 1 = some (0, τ) := t1
  unfold fX2_fewestChanges
  rw [hL.2.2.1, isz (by omega), if_neg (by omega), t1', xB_s]
  exact key n 0 N τ (by omega) (by omega) (fun a k hs => t4 a k (by unfold sr at hs; omega) (by unfold sr at hs; omega) (by unfold sr at hs; omega)) t3 (fun e he => by rw [show e = 0 by omega]; exact t2)
end
theorem sim_altered {N : Nat} (hN : 1000000 ≤ N) : Sim26 N RR := by
  intro σ a b p hR
  obtain ⟨A, h⟩ := id hR
  obtain ⟨a1, a2, a3⟩ := h.a
  obtain ⟨c1', c2', c3'⟩ := h.c
  by_cases hx : (∃ j, j < A 0 1 ∧ a = nI j) ∧ ∃ j, j < A 0 2 ∧ b = nI j
  · by_cases hp : (-1 : Int32) ≤ p
    · obtain ⟨⟨i, hi, rfl⟩, c, hc, rfl⟩ := id hx
      obtain ⟨n, l, n6, l44, l85, hCL, hML⟩ := h.line
      obtain ⟨τ, ry, sl, st, t1, t2, t3, t4, t5⟩ := ask_c (N := N) h.tc h.tw hi hc
      have w := h.tw.2.2.2.2.2.2.1 i hi
      have hc9 : fX9_altered N σ (nI i) (nI c) p = xB (fX2_fewestChanges N τ) (fun y7 m8 => if p = (-1) then some (y7, m8) else if y7 = (-1) then some (y7, m8) else xB (fX2_findFirst N m8 (m8 44 1)) (fun _ m11 => xB (fX4_wordAt N m11 64 p) (fun y13 m14 => some (y13, m14)))) := by
        unfold fX9_altered
        rw [areKnown_c a1 c1' (by omega) (by omega), xB_s, ite1, if_pos hx, if_pos hp, t1, xB_s]
      have hm9 : ∀ μ : XS, (∀ k, μ 86 k = σ 86 k) → μ 85 6 = nI n → fX10_altered N μ (nI i) (nI c) p = if n = 0 then fX10_altered_J42 N (nI i) (nI c) p (-1) 0 μ else fX10_altered_J42 N (nI i) (nI c) p (-1) (nI (A 0 0 ^ n)) μ := by
        intro μ e e6
        unfold fX10_altered
        rw [areBoth_m ((e _).trans a2) ((e _).trans c2') (by omega) (by omega), xB_s, ite1, if_pos hx, if_pos hp, e6, isz (by omega), ways_m (by omega) ((e _).trans h.w.2.1) (by omega), xB_s]
      have kpt : Kp σ τ := kp_sr (fun a k _ g => t5 a k g)
      by_cases z : n = 0
      · have fcz : fX2_fewestChanges N τ = some (-1, τ) := by
          unfold fX2_fewestChanges
          rw [t5 44 1 (by omega), l44, z, if_pos (by rfl)]
        refine sim_kp (f := fun σ => fX9_altered N σ (nI i) (nI c) p) (g := fun σ => fX10_altered N σ (nI i) (nI c) p) (r := -1) (σ1 := τ) (σ2 := τ) hR ?_ ?_ kpt Kp.rf
        · show fX9_altered N σ (nI i) (nI c) p = _
          rw [hc9, fcz, xB_s, if_pos rfl, ite_self]
        · show fX10_altered N τ (nI i) (nI c) p = _
          rw [hm9 τ (fun k => t5 _ _ (by omega)) ((t5 _ _ (by omega)).trans l85), if_pos z]
          unfold fX10_altered_J42
          obtain ⟨q, hq⟩ : ∃ q, N = q + 1 := ⟨N - 1, by omega⟩
          have e : ∀ (q : Nat) (K : Int32 → XS → Option XO), fX10_altered_L47 N (nI i) (nI c) p 0 K (q + 1) (-1) 0 τ = K (-1) τ := fun q K => by rw [fX10_altered_L47, if_pos (by decide)]
          have := e (N - 1) (fun x19 m20 => if x19 = (-1) then some (x19, m20) else if p = (-1) then some (x19, m20) else if (m20 85 6) ≤ p then some ((-1), m20) else gd (xin p 6) (some ((m20 95 p.toNatClampNeg), m20)))
          rw [show N - 1 + 1 = N by omega] at this
          rw [this, if_pos rfl]
      · have hCt : CLn A τ 44 n l := ⟨h.tc.eq (fun a k g1 g2 => t5 a k (by omega)), h.tw, (t5 _ _ (by omega)).trans l44, n6, fun j hj => ⟨(hCL.2.2.2.2 j hj).1, (t5 45 j (by omega)).trans (hCL.2.2.2.2 j hj).2⟩⟩
        have hw0 : 0 < A 0 0 := by
          have := (hCL.2.2.2.2 0 (by omega)).1
          omega
        obtain ⟨μ, m1, m2, m3, m4⟩ := changes_c (N := N) (by omega) h.tw t3 (show A 6 i ≤ 12 by omega) t4 hCt (by omega)
        have eG : (fun c' => lok A ry sl st c' n 0 (A 6 i)) = fun c' => passS A (dg (A 0 0) n c') n i (A 8 c) := by
          funext c'
          rw [Bool.eq_iff_iff, ← pass_iff h.tw hw0 t2 ⟨c, hc, decide_eq_true rfl⟩ (show 1 ≤ n by omega)]
          exact ⟨fun g => g c hc (decide_eq_true rfl), fun g j _ g2 => by rw [of_decide_eq_true g2]; exact g⟩
        have sp := m2 n (Nat.le_refl _) 0 (A 6 i) (by omega) (by omega)
        rw [Nat.zero_mul, Nat.zero_add] at sp
        have frm : ∀ a k, ¬ sr a → a ≠ 46 → μ a k = σ a k := fun a k g1 g2 => (m4 a k g1).trans (t5 a k g2)
        -- the reference, from whatever keeps
        have ref : ∀ ν : XS, (∀ a k, ¬ sr a → a ≠ 46 → a ≠ 64 → a ≠ 65 → ν a k = σ a k) → ∃ v ρ, fX10_altered N ν (nI i) (nI c) p = (if v = -1 then some (v, ρ) else if p = -1 then some (v, ρ) else if nI n ≤ p then some (-1, ρ) else gd (xin p 6) (some (ρ 95 p.toNatClampNeg, ρ))) ∧ AI (fun c' => lok A ry sl st c' n 0 (A 6 i)) (fun c' => lch A true (fun e => l (n - (e + 1))) c' n) (dg (A 0 0) n) n (A 0 0 ^ n) v ρ ∧ Kp ν ρ := by
          intro ν fn
          have e86 : ∀ k, ν 86 k = σ 86 k := fun k => fn _ _ (by unfold sr; omega) (by omega) (by omega) (by omega)
          have e85 : ν 85 6 = nI n := (fn _ _ (by unfold sr; omega) (by omega) (by omega) (by omega)).trans l85
          obtain ⟨v, ρ, r1, r2, r3⟩ := altered_m (N := N) (σ := ν) (n := n) (l := l) (lw := fun e => l (n - (e + 1))) (v3 := p) (k := fun x19 m20 => if x19 = (-1) then some (x19, m20) else if p = (-1) then some (x19, m20) else if (m20 85 6) ≤ p then some ((-1), m20) else gd (xin p 6) (some ((m20 95 p.toNatClampNeg), m20))) hN (h.tm.eqL h.tw (fun k _ => e86 k)) h.tw hw0 hi hc n6 e85 (fun j hj => ⟨(hML.2.2.2.2 j hj).1, (fn 90 j (by unfold sr; omega) (by omega) (by omega) (by omega)).trans (hML.2.2.2.2 j hj).2⟩) (fun e he => rfl)
          refine ⟨v, ρ, ?_, ?_, fun a k q => r3 a k (fun e => ?_) (fun e => ?_)⟩
          · rw [hm9 ν e86 e85, if_neg z]
            unfold fX10_altered_J42
            rw [r1, (r3 85 6 (by omega) (by omega)).trans e85]
          · rw [eG]; exact r2
          · subst e; exact absurd (q.symm.trans (show lv _ _ = false from rfl)) (by decide)
          · subst e; exact absurd (q.symm.trans (show lv _ _ = false from rfl)) (by decide)
        -- the same least
        have same : ∀ v ρ, AI (fun c' => lok A ry sl st c' n 0 (A 6 i)) (fun c' => lch A true (fun e => l (n - (e + 1))) c' n) (dg (A 0 0) n) n (A 0 0 ^ n) v ρ → μ (49 + n) (A 6 i) = v := by
          intro v ρ hA
          rcases hA with ⟨g1, g2⟩ | ⟨k, c0, k1, k2, k3, k4, k5, k6, k7, k8⟩
          · rcases sp with ⟨s1, s2, s3⟩ | ⟨k, s1, s2, ⟨e, e1, e2, e3⟩, s4, s5⟩
            · rw [s1, g1]
            · rw [g2 e e1] at e2; cases e2
          · rw [k2]; exact sp.val k3 k4 k5 k6
        by_cases p1 : p = -1
        · obtain ⟨v, ρ, r1, r2, r3⟩ := ref μ (fun a k g1 g2 _ _ => frm a k g1 g2)
          have sv := same v ρ r2
          refine sim_kp (f := fun σ => fX9_altered N σ (nI i) (nI c) p) (g := fun σ => fX10_altered N σ (nI i) (nI c) p) (r := v) (σ1 := μ) (σ2 := ρ) hR ?_ ?_ (kp_sr frm) r3
          · show fX9_altered N σ (nI i) (nI c) p = _
            rw [hc9, m1, xB_s, if_pos p1, sv]
          · show fX10_altered N μ (nI i) (nI c) p = _
            rw [r1, if_pos p1, ite_self]
        · obtain ⟨v, ρ, r1, r2, r3⟩ := ref μ (fun a k g1 g2 _ _ => frm a k g1 g2)
          have sv := same v ρ r2
          by_cases vn : v = -1
          · refine sim_kp (f := fun σ => fX9_altered N σ (nI i) (nI c) p) (g := fun σ => fX10_altered N σ (nI i) (nI c) p) (r := v) (σ1 := μ) (σ2 := ρ) hR ?_ ?_ (kp_sr frm) r3
            · show fX9_altered N σ (nI i) (nI c) p = _
              rw [hc9, m1, xB_s, if_neg p1, sv, if_pos vn]
            · show fX10_altered N μ (nI i) (nI c) p = _
              rw [r1, if_pos vn]
          · rcases r2 with ⟨g1, _⟩ | ⟨k, c0, k1, k2, k3, k4, k5, k6, k7, k8⟩
            · exact absurd g1 vn
            · have e44 : μ 44 1 = nI n := (m4 _ _ (by unfold sr; omega)).trans hCt.2.2.1
              obtain ⟨ν, q1, q2, q3, q4⟩ := first_c (N := N) (σ := μ) (alt := true) (lw := fun e => l (n - (e + 1))) (k := k) (by omega) (hCt.1.eq (fun a k g1 g2 => m4 a k (by unfold sr; omega))) h.tw m3 (by omega) n6 (show A 6 i ≤ 12 by omega) ((m4 _ _ (by unfold sr; omega)).trans t4) m2 (fun d hd _ => ⟨n, l, ⟨hCt.1.eq (fun a k g1 g2 => m4 a k (by unfold sr; omega)), h.tw, e44, n6, fun j hj => ⟨(hCt.2.2.2.2 j hj).1, (m4 45 j (by unfold sr; omega)).trans (hCt.2.2.2.2 j hj).2⟩⟩, by omega, rfl⟩) k3 k4 k5 k6 k7
              have fn : ∀ a k, ¬ sr a → a ≠ 46 → a ≠ 64 → a ≠ 65 → ν a k = σ a k := fun a k g1 g2 g3 g4 => (q4 a k g3 g4).trans (frm a k g1 g2)
              obtain ⟨v', ρ', r1', r2', r3'⟩ := ref ν fn
              have sv' := same v' ρ' r2'
              have vv : v' = v := sv'.symm.trans sv
              subst vv
              have hp0 : ¬ p < 0 := fun g => by
                have g2 : p ≤ -1 := by
                  rw [Int32.le_iff_toInt_le]
                  rw [Int32.lt_iff_toInt_lt, Int32.toInt_zero] at g
                  have e : (-1 : Int32).toInt = -1 := by decide
                  omega
                exact p1 (Int32.le_antisymm g2 hp)
              obtain ⟨j, hj, rfl⟩ := nI_of hp0
              rcases r2' with ⟨g1, _⟩ | ⟨k', c0', k1', k2', k3', k4', k5', k6', k7', k8'⟩
              · exact absurd g1 vn
              · have ek : k = k' := (nI_eq (by omega) (by omega)).mp (k2.symm.trans k2')
                subst ek
                have ec : c0 = c0' := by
                  rcases Nat.lt_trichotomy c0 c0' with g | g | g
                  · exact absurd k5 (k7' c0 g k4)
                  · exact g
                  · exact absurd k5' (k7 c0' g k4')
                subst ec
                refine sim_kp (f := fun σ => fX9_altered N σ (nI i) (nI c) (nI j)) (g := fun σ => fX10_altered N σ (nI i) (nI c) (nI j)) (r := if j < n then nI (dg (A 0 0) n c0 j) else -1) (σ1 := ν) (σ2 := ρ') hR ?_ ?_ (kp_sr2 fn) r3'
                · show fX9_altered N σ (nI i) (nI c) (nI j) = _
                  rw [hc9, m1, xB_s, if_neg p1, sv, if_neg vn, e44, q1, xB_s]
                  unfold fX4_wordAt
                  rw [if_neg hp0, q2]
                  by_cases y : j < n
                  · have e : ν (64 + 1) j = _ := q3 j y
                    rw [if_neg (nI_ge y (by omega)), if_pos y, l6, if_neg (nI_ge (by omega) (by omega)), xin_t (by omega) (by decide), gd_t, nI_clamp (by omega), xB_s, e]
                  · rw [if_pos (nI_le (by omega) hj), if_neg y, xB_s]
                · show fX10_altered N ν (nI i) (nI c) (nI j) = _
                  rw [r1', if_neg vn, if_neg p1]
                  by_cases y : j < n
                  · rw [if_neg (nI_ge y (by omega)), if_pos y, xin_t (by omega) (by decide), gd_t, nI_clamp (by omega), k8' j y]
                  · rw [if_pos (nI_le (by omega) hj), if_neg y]
    · refine sim_mk (f := fun σ => fX9_altered N σ a b p) (g := fun σ => fX10_altered N σ a b p) (-3) σ σ ?_ ?_ hR
      · show fX9_altered N σ a b p = _
        unfold fX9_altered
        rw [areKnown_c a1 c1' (by omega) (by omega), xB_s, ite1, if_pos hx, if_neg hp]
      · show fX10_altered N σ a b p = _
        unfold fX10_altered
        rw [areBoth_m a2 c2' (by omega) (by omega), xB_s, ite1, if_pos hx, if_neg hp]
  · refine sim_mk (f := fun σ => fX9_altered N σ a b p) (g := fun σ => fX10_altered N σ a b p) (-2) σ σ ?_ ?_ hR
    · show fX9_altered N σ a b p = _
      unfold fX9_altered
      rw [areKnown_c a1 c1' (by omega) (by omega), xB_s, ite1, if_neg hx]
    · show fX10_altered N σ a b p = _
      unfold fX10_altered
      rw [areBoth_m a2 c2' (by omega) (by omega), xB_s, ite1, if_neg hx]
