/-! ROWS of least and many: filled -/
theorem negI {a b : Nat} (h : a < b) (hb : b < 1000) : nI a - nI b < 0 := by
  rw [Int32.lt_iff_toInt_lt, pk_sub_toInt (by omega) (by omega), Int32.toInt_zero]
  omega
section
variable {N : Nat} {A : Nat → Nat → Nat} {σ τ : XS} {ry : Nat} {sl st alt : Bool} {lw : Nat → Nat}
def ERow (A : Nat → Nat → Nat) (ry : Nat) (sl st alt : Bool) (lw : Nat → Nat) (d : Nat) (τ : XS) : Prop := ∀ p s, p < 2 → s < 13 → SPl (fun c => lok A ry sl st c d p s) (fun c => lch A alt lw c d) (A 0 0 ^ d) (τ (49 + d) (p * 13 + s)) (τ (57 + d) (p * 13 + s))
theorem place_c {d s : Nat} (hd : d ≤ 6) (hs : s < 13) : fX2_isPlace N σ (nI d) (nI s) = some (1, σ) := by
  unfold fX2_isPlace
  rw [if_neg (nI_pos (by omega)), l6, if_neg (nI_nlt (by omega) (by omega)), if_neg (nI_pos (by omega)), show (13 : Int32) = nI 13 from rfl, if_neg (nI_ge hs (by decide))]
theorem noplace_c {d : Nat} (hd : d ≤ 6) {x : Int32} (hx : x < 0) : fX2_isPlace N σ (nI d) x = some (0, σ) := by
  unfold fX2_isPlace
  rw [if_neg (nI_pos (by omega)), l6, if_neg (nI_nlt (by omega) (by omega)), if_pos hx]
theorem leastAt_c {d s q : Nat} (hd : d ≤ 6) (hs : s < 13) (hq : q < 1000) : fX2_leastAt N σ (nI d) (nI q) (nI s) = some (σ (49 + d) (q % 2 * 13 + s), σ) := by
  have hm : q % 2 < 2 := Nat.mod_lt _ (by decide)
  unfold fX2_leastAt
  rw [place_c hd hs, xB_s, if_neg (by decide), xin_t (by omega) (by decide), gd_t, and1 (by omega), show (13 : Int32) = nI 13 from rfl, pk_mul, nI_add, xin_t (by omega) (by decide), gd_t, nI_clamp (by omega), nI_clamp (by omega)]
theorem manyAt_c {d s q : Nat} (hd : d ≤ 6) (hs : s < 13) (hq : q < 1000) : fX2_manyAt N σ (nI d) (nI q) (nI s) = some (σ (57 + d) (q % 2 * 13 + s), σ) := by
  have hm : q % 2 < 2 := Nat.mod_lt _ (by decide)
  unfold fX2_manyAt
  rw [place_c hd hs, xB_s, if_neg (by decide), xin_t (by omega) (by decide), gd_t, and1 (by omega), show (13 : Int32) = nI 13 from rfl, pk_mul, nI_add, xin_t (by omega) (by decide), gd_t, nI_clamp (by omega), nI_clamp (by omega)]
/-- the line that is altered -/
def LW (A : Nat → Nat → Nat) (alt : Bool) (lw : Nat → Nat) (d : Nat) (τ : XS) : Prop := alt = true → ∃ n l, CLn A τ 44 n l ∧ d + 1 ≤ n ∧ lw d = l (n - (d + 1))
theorem with_c (hC : TC A τ) (hW : TW A) (hD : DM ry sl st alt τ) {d p s w : Nat} (hd : d < 6) (hp : p < 60) (hs : s < 13) (hw : w < A 0 0) (hR : ERow A ry sl st alt lw d τ) (hL : LW A alt lw d τ) :
    ∃ u, fX2_leastWith N τ (nI w) (nI (d + 1)) (nI p) (nI s) = some (u, τ) ∧ ((u = -1 ∧ ∀ c, c < A 0 0 ^ d → lok A ry sl st (w * A 0 0 ^ d + c) (d + 1) p s = false) ∨
      ∃ j, j < 100 ∧ u = nI j ∧ (∃ c, c < A 0 0 ^ d ∧ lok A ry sl st (w * A 0 0 ^ d + c) (d + 1) p s = true ∧ lch A alt lw (w * A 0 0 ^ d + c) (d + 1) = j) ∧ (∀ c, c < A 0 0 ^ d → lok A ry sl st (w * A 0 0 ^ d + c) (d + 1) p s = true → j ≤ lch A alt lw (w * A 0 0 ^ d + c) (d + 1)) ∧
        fX2_manyWith N τ (nI w) (nI (d + 1)) (nI p) (nI s) = some (nI (cn (fun c => lok A ry sl st (w * A 0 0 ^ d + c) (d + 1) p s && decide (lch A alt lw (w * A 0 0 ^ d + c) (d + 1) = j)) (A 0 0 ^ d) 0 0), τ)) := by
  obtain ⟨k1, k2, k3, k4, k5, k6⟩ := hW.2.2.2.2.1 w hw
  have w9 := hW.1
  have hfl : ∀ T : Int32 → Option XO, (if nI (d + 1) = (1 : Int32) then T 1 else T 0) = T (b2i (decide (d = 0))) := fun T => by
    by_cases z : d = 0
    · rw [z, if_pos (by rfl)]; rfl
    · rw [if_neg (by rw [l1, nI_eq (by omega) (by omega)]; omega), decide_eq_false z]; rfl
  have hm1 : nI (d + 1) - 1 = nI d := nI_pred'
  have hl1 : fX2_leastWith N τ (nI w) (nI (d + 1)) (nI p) (nI s) = fX2_leastWith_J16 N (nI w) (nI (d + 1)) (nI p) (nI s) (b2i (decide (d = 0))) (nI p) (nI w) τ := by
    unfold fX2_leastWith
    exact hfl (fun t => fX2_leastWith_J16 N (nI w) (nI (d + 1)) (nI p) (nI s) t (nI p) (nI w) τ)
  have hl2 : fX2_leastWith N τ (nI w) (nI (d + 1)) (nI p) (nI s) = if alS A ry sl st w p (decide (d = 0)) = true then fX2_leastWith_J58 N (nI w) (nI (d + 1)) (b2i (decide (d = 0))) (nI w) (nI s) (nI (p + A 2 w)) (nI d) τ else some (-1, τ) := by
    rw [hl1]
    unfold fX2_leastWith_J16
    rw [allows_c hC hW hD hw hp, xB_s, b2i0]
    by_cases a : alS A ry sl st w p (decide (d = 0)) = true
    · rw [if_pos a, if_pos a, syl_at hC hW hw, xB_s, nI_add, hm1]
      exact hfl (fun t => fX2_leastWith_J58 N (nI w) (nI (d + 1)) t (nI w) (nI s) (nI (p + A 2 w)) (nI d) τ)
    · rw [if_neg a, if_neg a]
  have no : (alS A ry sl st w p (decide (d = 0)) && decide (ctS A sl w (decide (d = 0)) ≤ s)) = false → ∀ c, c < A 0 0 ^ d → lok A ry sl st (w * A 0 0 ^ d + c) (d + 1) p s = false := fun h c hc => by
    rw [lok_bl hw hc, ← Bool.and_assoc, h, Bool.false_and]
  by_cases a : alS A ry sl st w p (decide (d = 0)) = true
  · rw [if_pos a] at hl2
    unfold fX2_leastWith_J58 at hl2
    rw [countOf_c hC hW hD hw, xB_s] at hl2
    by_cases b : ctS A sl w (decide (d = 0)) ≤ s
    · rw [pk_sub b, leastAt_c (by omega) (by omega) (by omega), xB_s, hD.2.2.2.2] at hl2
      have yes : ∀ c, c < A 0 0 ^ d → lok A ry sl st (w * A 0 0 ^ d + c) (d + 1) p s = lok A ry sl st c d ((p + A 2 w) % 2) (s - ctS A sl w (decide (d = 0))) := fun c hc => by
        rw [lok_bl hw hc, a, decide_eq_true b, Bool.true_and, Bool.true_and]
      rcases hR ((p + A 2 w) % 2) (s - ctS A sl w (decide (d = 0))) (Nat.mod_lt _ (by decide)) (by omega) with ⟨h1, h2, h3⟩ | ⟨k, g1, g2, ⟨c, c1, c2, c3⟩, g4, g5⟩
      · rw [h1, if_pos rfl] at hl2
        exact ⟨-1, hl2, Or.inl ⟨rfl, fun c hc => by rw [yes c hc]; exact h3 c hc⟩⟩
      · have kd : k ≤ d := by rw [← c3]; exact lch_le d
        have hmany : fX2_manyWith N τ (nI w) (nI (d + 1)) (nI p) (nI s) = some (nI (cn (fun c => lok A ry sl st c d ((p + A 2 w) % 2) (s - ctS A sl w (decide (d = 0))) && decide (lch A alt lw c d = k)) (A 0 0 ^ d) 0 0), τ) := by
          unfold fX2_manyWith
          rw [syl_at hC hW hw, xB_s, nI_add, hm1]
          have e := hfl (fun t => xB (fX1_countOf N τ (nI w) t) (fun y10 m11 => xB (fX2_manyAt N m11 (nI d) (nI (p + A 2 w)) (nI s - y10)) (fun y13 m14 => some (y13, m14))))
          refine e.trans ?_
          show xB (fX1_countOf N τ (nI w) (b2i (decide (d = 0)))) _ = _
          rw [countOf_c hC hW hD hw, xB_s, pk_sub b, manyAt_c (by omega) (by omega) (by omega), xB_s, g5]
        rw [g2, if_neg (ne1 (by omega)), b2i0] at hl2
        have fin : ∀ (x : Nat), x ≤ 1 → x = (if alt = true ∧ lw d ≠ w then 1 else 0) → fX2_leastWith N τ (nI w) (nI (d + 1)) (nI p) (nI s) = some (nI (x + k), τ) → ∃ u, fX2_leastWith N τ (nI w) (nI (d + 1)) (nI p) (nI s) = some (u, τ) ∧ ((u = -1 ∧ ∀ c, c < A 0 0 ^ d → lok A ry sl st (w * A 0 0 ^ d + c) (d + 1) p s = false) ∨
      ∃ j, j < 100 ∧ u = nI j ∧ (∃ c, c < A 0 0 ^ d ∧ lok A ry sl st (w * A 0 0 ^ d + c) (d + 1) p s = true ∧ lch A alt lw (w * A 0 0 ^ d + c) (d + 1) = j) ∧ (∀ c, c < A 0 0 ^ d → lok A ry sl st (w * A 0 0 ^ d + c) (d + 1) p s = true → j ≤ lch A alt lw (w * A 0 0 ^ d + c) (d + 1)) ∧
        fX2_manyWith N τ (nI w) (nI (d + 1)) (nI p) (nI s) = some (nI (cn (fun c => lok A ry sl st (w * A 0 0 ^ d + c) (d + 1) p s && decide (lch A alt lw (w * A 0 0 ^ d + c) (d + 1) = j)) (A 0 0 ^ d) 0 0), τ)) := by
          intro x hx hx2 hu
          have chg : ∀ c, c < A 0 0 ^ d → lch A alt lw (w * A 0 0 ^ d + c) (d + 1) = x + lch A alt lw c d := fun c hc => by rw [lch_bl hw hc, ← hx2]
          refine ⟨_, hu, Or.inr ⟨x + k, by omega, rfl, ⟨c, c1, by rw [yes c c1]; exact c2, by rw [chg c c1]; exact congrArg (fun z => x + z) c3⟩, fun e he hq => ?_, ?_⟩⟩
          · rw [yes e he] at hq
            rw [chg e he]
            have := g4 e he hq
            have h2 : k ≤ lch A alt lw e d := this
            omega
          · rw [hmany]
            congr 3
            refine cn_congr _ _ _ (fun e h1 h2 => ?_)
            show (_ && decide (lch A alt lw e d = k)) = (_ && decide (_ = x + k))
            rw [yes e (by omega), chg e (by omega)]
            congr 1
            exact decide_eq_decide.mpr (by omega)
        by_cases al : alt = true
        · obtain ⟨n, l, q1, q2, q3⟩ := hL al
          rw [if_pos al, q1.2.2.1, pk_sub q2, wordAt_n q1 (by omega), xB_s, ← q3] at hl2
          have lb : lw d < A 0 0 := by rw [q3]; exact (q1.2.2.2.2 _ (by omega)).1
          by_cases z : lw d = w
          · rw [if_pos (by rw [z])] at hl2
            exact fin 0 (by omega) (by rw [if_neg (fun g => g.2 z)]) (by rw [Nat.zero_add]; exact hl2)
          · rw [if_neg (by rw [nI_eq (by omega) (by omega)]; exact z), nI_1] at hl2
            exact fin 1 (by omega) (by rw [if_pos ⟨al, z⟩]) (by rw [show 1 + k = k + 1 by omega]; exact hl2)
        · rw [if_neg al] at hl2
          exact fin 0 (by omega) (by rw [if_neg (fun g => al g.1)]) (by rw [Nat.zero_add]; exact hl2)
    · have hx := negI (show s < ctS A sl w (decide (d = 0)) by omega) (by
        unfold ctS
        by_cases g : (sl && (!decide (d = 0) && decide (A 1 w = 1))) = true
        · rw [if_pos g]; omega
        · rw [if_neg g]; omega)
      have hat : fX2_leastAt N τ (nI d) (nI (p + A 2 w)) (nI s - nI (ctS A sl w (decide (d = 0)))) = some (-1, τ) := by
        unfold fX2_leastAt
        rw [noplace_c (by omega) hx, xB_s, if_pos rfl]
      rw [hat, xB_s, if_pos rfl] at hl2
      exact ⟨-1, hl2, Or.inl ⟨rfl, no (by rw [a, decide_eq_false b]; rfl)⟩⟩
  · rw [if_neg a] at hl2
    have a2 : alS A ry sl st w p (decide (d = 0)) = false := by cases h : alS A ry sl st w p (decide (d = 0)); rfl; exact absurd h a
    exact ⟨-1, hl2, Or.inl ⟨rfl, no (by rw [a2]; rfl)⟩⟩
theorem g13 {T : Option XO} : gd (!decide (13 = 0)) T = T := rfl
theorem fill_one (hN : 10 ≤ N) (hC : TC A τ) (hW : TW A) (hD : DM ry sl st alt τ) {d p s : Nat} (hd : d < 6) (hp : p < 2) (hs : s < 13) (hR : ERow A ry sl st alt lw d τ) (hL : LW A alt lw d τ) {k : Int32 → Int32 → XS → Option XO} :
    ∃ v m, fX2_fill_L28 N (nI (d + 1)) (nI (p * 13 + s)) k N (-1) 0 0 τ = k v m τ ∧ SPl (fun c => lok A ry sl st c (d + 1) p s) (fun c => lch A alt lw c (d + 1)) (A 0 0 ^ (d + 1)) v m := by
  have w9 := hW.1
  have key : ∀ (e w q : Nat) (v m : Int32), w + e = A 0 0 → e < q → SPl (fun c => lok A ry sl st c (d + 1) p s) (fun c => lch A alt lw c (d + 1)) (w * A 0 0 ^ d) v m → ∃ v' m', fX2_fill_L28 N (nI (d + 1)) (nI (p * 13 + s)) k q v m (nI w) τ = k v' m' τ ∧ SPl (fun c => lok A ry sl st c (d + 1) p s) (fun c => lch A alt lw c (d + 1)) (A 0 0 ^ (d + 1)) v' m' := by
    intro e
    induction e with
    | zero =>
      intro w q v m hw hq hv
      obtain ⟨q, rfl⟩ : ∃ r, q = r + 1 := ⟨q - 1, by omega⟩
      rw [fX2_fill_L28, hC.1, if_pos (nI_le (by omega) (by omega))]
      refine ⟨v, m, rfl, ?_⟩
      rw [show w = A 0 0 by omega] at hv
      rw [Nat.pow_succ, Nat.mul_comm]
      exact hv
    | succ e ih =>
      intro w q v m hw hq hv
      obtain ⟨q, rfl⟩ : ∃ r, q = r + 1 := ⟨q - 1, by omega⟩
      have nx : w * A 0 0 ^ d + A 0 0 ^ d = (w + 1) * A 0 0 ^ d := (Nat.succ_mul _ _).symm
      obtain ⟨u, u1, u2⟩ := with_c (N := N) (p := p) (s := s) (w := w) hC hW hD hd (by omega) hs (by omega) hR hL
      have dv : nI (p * 13 + s) / 13 = nI p := by
        rw [show (13 : Int32) = nI 13 from rfl, pk_div (by omega) (by decide) (by decide)]
        exact congrArg _ (by omega)
      have rm : nI (p * 13 + s) - nI p * 13 = nI s := by
        rw [show (13 : Int32) = nI 13 from rfl, pk_mul, pk_sub (by omega)]
        exact congrArg _ (by omega)
      rw [fX2_fill_L28, hC.1, if_neg (nI_ge (by omega) (by omega)), g13, g13, dv, rm, u1, xB_s]
      rcases u2 with ⟨h1, h2⟩ | ⟨j, j1, j2, j3, j4, j5⟩
      · rw [h1, if_pos rfl, nI_1]
        refine ih (w + 1) q v m (by omega) (by omega) ?_
        rw [← nx]
        exact hv.none h2
      · have go : ∀ (v' m' x : Int32), v' = nI j → m' = x + nI (cn (fun c => lok A ry sl st (w * A 0 0 ^ d + c) (d + 1) p s && decide (lch A alt lw (w * A 0 0 ^ d + c) (d + 1) = j)) (A 0 0 ^ d) 0 0) → SPl (fun c => lok A ry sl st c (d + 1) p s) (fun c => lch A alt lw c (d + 1)) (w * A 0 0 ^ d + A 0 0 ^ d) v' m' → ∃ v'' m'', fX2_fill_J86 N (nI (d + 1)) (nI (p * 13 + s)) x (nI w) v' (fX2_fill_L28 N (nI (d + 1)) (nI (p * 13 + s)) k q) τ = k v'' m'' τ ∧ SPl (fun c => lok A ry sl st c (d + 1) p s) (fun c => lch A alt lw c (d + 1)) (A 0 0 ^ (d + 1)) v'' m'' := by
          intro v' m' x hv' hm' hS
          unfold fX2_fill_J86
          rw [g13, g13, dv, rm, j5, xB_s, ← hm', nI_1]
          refine ih (w + 1) q v' m' (by omega) (by omega) ?_
          rw [← nx]
          exact hS
        have jn : nI j ≠ (-1 : Int32) := ne1 (by omega)
        rw [j2, if_neg jn]
        by_cases vn : v = -1
        · rw [if_pos vn]
          unfold fX2_fill_J77
          rw [if_neg (by rw [vn]; exact jn)]
          exact go _ _ 0 rfl rfl (hv.block j1 j3 j4 rfl ⟨fun _ => ⟨rfl, rfl⟩, fun g => absurd vn g, fun g => absurd vn g, fun g => absurd vn g⟩)
        · rw [if_neg vn]
          by_cases le : nI j ≤ v
          · rw [if_pos le]
            unfold fX2_fill_J77
            by_cases eq : nI j = v
            · rw [if_pos eq]
              exact go _ _ m rfl rfl (hv.block j1 j3 j4 rfl ⟨fun g => absurd g vn, fun _ g => ⟨g, rfl⟩, fun _ g => absurd eq g, fun _ g => absurd le g⟩)
            · rw [if_neg eq]
              exact go _ _ 0 rfl rfl (hv.block j1 j3 j4 rfl ⟨fun g => absurd g vn, fun _ g => absurd g eq, fun _ _ _ => ⟨rfl, rfl⟩, fun _ g => absurd le g⟩)
          · rw [if_neg le, nI_1]
            refine ih (w + 1) q v m (by omega) (by omega) ?_
            rw [← nx]
            exact hv.block j1 j3 j4 rfl ⟨fun g => absurd g vn, fun _ g => absurd (by rw [g]; exact Int32.le_refl _) le, fun _ _ g => absurd g le, fun _ _ => ⟨rfl, rfl⟩⟩
  exact key (A 0 0) 0 N (-1) 0 (by omega) (by omega) (Or.inl ⟨rfl, rfl, fun c hc => by omega⟩)
theorem fill_c (hN : 100 ≤ N) (hC : TC A σ) (hW : TW A) (hD : DM ry sl st alt σ) {d : Nat} (hd : d < 6) (hR : ERow A ry sl st alt lw d σ) (hL : LW A alt lw d σ) :
    ∃ τ, fX2_fill N σ (nI (d + 1)) = some (0, τ) ∧ ERow A ry sl st alt lw (d + 1) τ ∧ ∀ a k, a ≠ 49 + (d + 1) → a ≠ 57 + (d + 1) → τ a k = σ a k := by
  have key : ∀ (e i q : Nat) (τ : XS), i + e = 26 → e < q → (∀ a k, a ≠ 49 + (d + 1) → a ≠ 57 + (d + 1) → τ a k = σ a k) → (∀ p s, p < 2 → s < 13 → p * 13 + s < i → SPl (fun c => lok A ry sl st c (d + 1) p s) (fun c => lch A alt lw c (d + 1)) (A 0 0 ^ (d + 1)) (τ (49 + (d + 1)) (p * 13 + s)) (τ (57 + (d + 1)) (p * 13 + s))) → ∃ τ', fX2_fill_L14 N (nI (d + 1)) (fun m18 => some (0, m18)) q (nI i) τ = some (0, τ') ∧ ERow A ry sl st alt lw (d + 1) τ' ∧ ∀ a k, a ≠ 49 + (d + 1) → a ≠ 57 + (d + 1) → τ' a k = σ a k := by
    intro e
    induction e with
    | zero =>
      intro i q τ hi hq f1 f2
      obtain ⟨q, rfl⟩ : ∃ r, q = r + 1 := ⟨q - 1, by omega⟩
      rw [fX2_fill_L14, show (26 : Int32) = nI 26 from rfl, if_pos (nI_le (by omega) (by omega))]
      exact ⟨τ, rfl, fun p s g1 g2 => f2 p s g1 g2 (by omega), f1⟩
    | succ e ih =>
      intro i q τ hi hq f1 f2
      obtain ⟨q, rfl⟩ : ∃ r, q = r + 1 := ⟨q - 1, by omega⟩
      obtain ⟨p0, s0, hp0, hs0, rfl⟩ : ∃ p s, p < 2 ∧ s < 13 ∧ i = p * 13 + s := ⟨i / 13, i % 13, by omega, by omega, by omega⟩
      have hC' : TC A τ := hC.eq (fun a k g1 g2 => f1 a k (by omega) (by omega))
      have hD' : DM ry sl st alt τ := ⟨fun z => (f1 _ _ (by omega) (by omega)).trans (hD.1 z), fun z => ⟨(hD.2.1 z).1, (f1 _ _ (by omega) (by omega)).trans (hD.2.1 z).2⟩, (f1 _ _ (by omega) (by omega)).trans hD.2.2.1, (f1 _ _ (by omega) (by omega)).trans hD.2.2.2.1, (f1 _ _ (by omega) (by omega)).trans hD.2.2.2.2⟩
      have hR' : ERow A ry sl st alt lw d τ := fun p s g1 g2 => by
        rw [f1 _ _ (by omega) (by omega), f1 _ _ (by omega) (by omega)]
        exact hR p s g1 g2
      have hL' : LW A alt lw d τ := fun al => by
        obtain ⟨n, l, q1, q2, q3⟩ := hL al
        exact ⟨n, l, ⟨hC', hW, (f1 _ _ (by omega) (by omega)).trans q1.2.2.1, q1.2.2.2.1, fun j hj => ⟨(q1.2.2.2.2 j hj).1, (f1 _ _ (by omega) (by omega)).trans (q1.2.2.2.2 j hj).2⟩⟩, q2, q3⟩
      obtain ⟨v, m, v1, v2⟩ := fill_one (N := N) (p := p0) (s := s0) (by omega) hC' hW hD' hd hp0 hs0 hR' hL' (k := fun x7 x8 m9 => gd (xin (nI (d + 1)) 7) (xLet (xUp m9 (49 + (nI (d + 1)).toNatClampNeg) (nI (p0 * 13 + s0)).toNatClampNeg x7) (fun m11 => gd (xin (nI (p0 * 13 + s0)) 26) (gd (xin (nI (d + 1)) 7) (xLet (xUp m11 (57 + (nI (d + 1)).toNatClampNeg) (nI (p0 * 13 + s0)).toNatClampNeg x8) (fun m15 => gd (xin (nI (p0 * 13 + s0)) 26) (fX2_fill_L14 N (nI (d + 1)) (fun m18 => some (0, m18)) q (nI (p0 * 13 + s0) + 1) m15)))))))
      rw [fX2_fill_L14, show (26 : Int32) = nI 26 from rfl, if_neg (nI_ge (by omega) (by omega)), v1, xin_t (by omega) (by decide), gd_t, xLet_e, xin_t (by omega) (by decide), gd_t, gd_t, xLet_e, gd_t, nI_clamp (by omega), nI_clamp (by omega), nI_1]
      refine ih (p0 * 13 + s0 + 1) q _ (by omega) (by omega) (fun a k g1 g2 => by rw [up_c (by omega), up_c (by omega)]; exact f1 a k g1 g2) (fun p s g1 g2 g3 => ?_)
      by_cases z : p * 13 + s = p0 * 13 + s0
      · obtain ⟨rfl, rfl⟩ : p = p0 ∧ s = s0 := by omega
        rw [up_s, up_c (by omega), up_s]
        exact v2
      · rw [up_c (by omega), up_c (by omega), up_c (by omega), up_c (by omega)]
        exact f2 p s g1 g2 (by omega)
  unfold fX2_fill
  rw [l1, if_neg (nI_nlt (by omega) (by omega)), l6, if_pos (nI_le (by omega) (by decide))]
  exact key 26 0 N σ (by omega) (by omega) (fun _ _ _ _ => rfl) (fun p s _ _ h => by omega)
end
