/-! BLOCKS of codes; HIDDEN -/
/-- the word of code c that has e words behind it -/
def wd (W c e : Nat) : Nat := c / W ^ e % W
theorem wd_lt {W c e : Nat} (h : 0 < W) : wd W c e < W := Nat.mod_lt _ h
theorem wd_lo {W w c e d : Nat} (hW : 0 < W) (he : e < d) : wd W (w * W ^ d + c) e = wd W c e := by
  unfold wd
  obtain ⟨f, rfl⟩ : ∃ f, d = e + 1 + f := ⟨d - (e + 1), by omega⟩
  have e1 : w * W ^ (e + 1 + f) + c = c + W ^ e * (w * W ^ f * W) := by
    rw [Nat.add_comm, Nat.pow_add, Nat.pow_succ]
    congr 1
    ac_rfl
  rw [e1, Nat.add_mul_div_left _ _ (Nat.pow_pos hW), Nat.add_mul_mod_self_right]
theorem wd_hi {W w c d : Nat} (hw : w < W) (hc : c < W ^ d) : wd W (w * W ^ d + c) d = w := by
  unfold wd
  have e1 : w * W ^ d + c = c + W ^ d * w := by rw [Nat.add_comm, Nat.mul_comm]
  rw [e1, Nat.add_mul_div_left _ _ (Nat.pow_pos (by omega)), Nat.div_eq_of_lt hc, Nat.zero_add, Nat.mod_eq_of_lt hw]
def IsMax (P : Nat → Bool) (f : Nat → Nat) (B : Nat) (v : Int32) : Prop := (v = -1 ∧ ∀ c, c < B → P c = false) ∨ ∃ k, k < 100 ∧ v = nI k ∧ (∃ c, c < B ∧ P c = true ∧ f c = k) ∧ ∀ c, c < B → P c = true → f c ≤ k
theorem IsMax.uniq {P : Nat → Bool} {f : Nat → Nat} {B : Nat} {v w : Int32} (h : IsMax P f B v) (g : IsMax P f B w) : v = w := by
  rcases h with ⟨h1, h2⟩ | ⟨k, k1, k2, ⟨c, c1, c2, c3⟩, k4⟩
  · rcases g with ⟨g1, g2⟩ | ⟨j, j1, j2, ⟨e, e1, e2, e3⟩, j4⟩
    · rw [h1, g1]
    · rw [h2 e e1] at e2; cases e2
  · rcases g with ⟨g1, g2⟩ | ⟨j, j1, j2, ⟨e, e1, e2, e3⟩, j4⟩
    · rw [g2 c c1] at c2; cases c2
    · have a := k4 e e1 e2
      have b := j4 c c1 c2
      rw [k2, j2, show k = j by omega]
theorem IsMax.congr {P Q : Nat → Bool} {f g : Nat → Nat} {B : Nat} {v : Int32} (h : IsMax P f B v) (e : ∀ c, c < B → P c = Q c ∧ f c = g c) : IsMax Q g B v := by
  rcases h with ⟨h1, h2⟩ | ⟨k, k1, k2, ⟨c, c1, c2, c3⟩, k4⟩
  · exact Or.inl ⟨h1, fun c hc => by rw [← (e c hc).1]; exact h2 c hc⟩
  · exact Or.inr ⟨k, k1, k2, ⟨c, c1, by rw [← (e c c1).1]; exact c2, by rw [← (e c c1).2]; exact c3⟩, fun c hc hq => by rw [← (e c hc).2]; exact k4 c hc (by rw [(e c hc).1]; exact hq)⟩
theorem IsMax.none {P : Nat → Bool} {f : Nat → Nat} {B L : Nat} {v : Int32} (h : IsMax P f B v) (hP : ∀ c, c < L → P (B + c) = false) : IsMax P f (B + L) v := by
  have hP2 : ∀ c, B ≤ c → c < B + L → P c = false := fun c h1 h2 => by
    have := hP (c - B) (by omega)
    rw [show B + (c - B) = c by omega] at this
    exact this
  rcases h with ⟨h1, h2⟩ | ⟨k, k1, k2, ⟨c, c1, c2, c3⟩, k4⟩
  · refine Or.inl ⟨h1, fun c hc => ?_⟩
    by_cases q : c < B
    · exact h2 c q
    · exact hP2 c (by omega) hc
  · refine Or.inr ⟨k, k1, k2, ⟨c, by omega, c2, c3⟩, fun c hc hq => ?_⟩
    by_cases q : c < B
    · exact k4 c q hq
    · rw [hP2 c (by omega) hc] at hq; cases hq
theorem ltm {k : Nat} (hk : k < 200) : (-1 : Int32) < nI k := Int32.lt_of_lt_of_le (by decide) (nI_pos' (by omega))
theorem IsMax.block {P : Nat → Bool} {f : Nat → Nat} {B L j : Nat} {v v' : Int32} (h : IsMax P f B v) (hj : j < 100) (ha : ∃ c, c < L ∧ P (B + c) = true ∧ f (B + c) = j) (hb : ∀ c, c < L → P (B + c) = true → f (B + c) ≤ j) (hv : v' = if v < nI j then nI j else v) : IsMax P f (B + L) v' := by
  obtain ⟨a, a1, a2, a3⟩ := ha
  have hb2 : ∀ c, B ≤ c → c < B + L → P c = true → f c ≤ j := fun c h1 h2 h3 => by
    have := hb (c - B) (by omega)
    rw [show B + (c - B) = c by omega] at this
    exact this h3
  rcases h with ⟨h1, h2⟩ | ⟨k, k1, k2, ⟨c, c1, c2, c3⟩, k4⟩
  · rw [h1, if_pos (ltm (by omega))] at hv
    refine Or.inr ⟨j, hj, hv, ⟨B + a, by omega, a2, a3⟩, fun c hc hq => ?_⟩
    by_cases q : c < B
    · rw [h2 c q] at hq; cases hq
    · exact hb2 c (by omega) hc hq
  · by_cases g : k < j
    · rw [k2, if_pos (nI_lt g (by omega))] at hv
      refine Or.inr ⟨j, hj, hv, ⟨B + a, by omega, a2, a3⟩, fun c hc hq => ?_⟩
      by_cases q : c < B
      · have := k4 c q hq; omega
      · exact hb2 c (by omega) hc hq
    · rw [k2, if_neg (nI_nlt (by omega) (by omega))] at hv
      refine Or.inr ⟨k, k1, hv, ⟨c, by omega, c2, c3⟩, fun c hc hq => ?_⟩
      by_cases q : c < B
      · exact k4 c q hq
      · have := hb2 c (by omega) hc hq; omega
/-- the last d words of code c scan behind p syllables; their elisions -/
def hsc (A : Nat → Nat → Nat) (c : Nat) : Nat → Nat → Bool
  | 0, _ => true
  | e + 1, p => fitS A (wd (A 0 0) c e) p && hsc A c e ((p + A 2 (wd (A 0 0) c e)) % 2)
def hel (A : Nat → Nat → Nat) (c : Nat) : Nat → Nat
  | 0 => 0
  | e + 1 => (if A 1 (wd (A 0 0) c e) = 1 ∧ e ≠ 0 then 1 else 0) + hel A c e
theorem hel_le {A : Nat → Nat → Nat} {c : Nat} : ∀ d, hel A c d ≤ d := by
  intro d
  induction d with
  | zero => exact Nat.le_refl _
  | succ d ih =>
    show (if _ then 1 else 0) + hel A c d ≤ d + 1
    by_cases q : A 1 (wd (A 0 0) c d) = 1 ∧ d ≠ 0
    · rw [if_pos q]; omega
    · rw [if_neg q]; omega
theorem hsc_lo {A : Nat → Nat → Nat} (hW : 0 < A 0 0) {w c d : Nat} : ∀ e p, e ≤ d → hsc A (w * A 0 0 ^ d + c) e p = hsc A c e p := by
  intro e
  induction e with
  | zero => intro p _; rfl
  | succ e ih =>
    intro p h
    show (fitS A (wd (A 0 0) _ e) p && hsc A _ e ((p + A 2 (wd (A 0 0) _ e)) % 2)) = (fitS A (wd (A 0 0) c e) p && hsc A c e ((p + A 2 (wd (A 0 0) c e)) % 2))
    rw [wd_lo hW (by omega), ih _ (by omega)]
theorem hel_lo {A : Nat → Nat → Nat} (hW : 0 < A 0 0) {w c d : Nat} : ∀ e, e ≤ d → hel A (w * A 0 0 ^ d + c) e = hel A c e := by
  intro e
  induction e with
  | zero => intro _; rfl
  | succ e ih =>
    intro h
    show (if A 1 (wd (A 0 0) _ e) = 1 ∧ e ≠ 0 then 1 else 0) + hel A _ e = (if A 1 (wd (A 0 0) c e) = 1 ∧ e ≠ 0 then 1 else 0) + hel A c e
    rw [wd_lo hW (by omega), ih (by omega)]
theorem fitS_mod {A : Nat → Nat → Nat} {w b : Nat} : fitS A w (b % 2) = fitS A w b := by
  unfold fitS
  rw [Nat.mod_add_mod]
theorem hsc_tie {A : Nat → Nat → Nat} {n c : Nat} : ∀ d, d ≤ n → scanS A (dg (A 0 0) n c) n = (scanS A (dg (A 0 0) n c) (n - d) && hsc A c d (sylS A (dg (A 0 0) n c) (n - d) % 2)) := by
  intro d
  induction d with
  | zero =>
    intro _
    show _ = (_ && true)
    rw [Bool.and_true, Nat.sub_zero]
  | succ d ih =>
    intro h
    have e1 : n - d = (n - (d + 1)) + 1 := by omega
    have e2 : dg (A 0 0) n c (n - (d + 1)) = wd (A 0 0) c d := by
      unfold dg wd
      rw [show n - 1 - (n - (d + 1)) = d by omega]
    rw [ih (by omega), e1]
    show ((scanS A _ (n - (d + 1)) && fitS A (dg (A 0 0) n c (n - (d + 1))) (sylS A _ (n - (d + 1)))) && hsc A c d ((sylS A _ (n - (d + 1)) + A 2 (dg (A 0 0) n c (n - (d + 1)))) % 2)) = (_ && (fitS A (wd (A 0 0) c d) _ && hsc A c d ((sylS A _ (n - (d + 1)) % 2 + A 2 (wd (A 0 0) c d)) % 2)))
    rw [e2, fitS_mod, Nat.mod_add_mod, Bool.and_assoc]
theorem hel_tie {A : Nat → Nat → Nat} {n c : Nat} : ∀ d, d + 1 ≤ n → elS A (dg (A 0 0) n c) (n - 1) = elS A (dg (A 0 0) n c) (n - (d + 1)) + hel A c (d + 1) := by
  intro d
  induction d with
  | zero =>
    intro _
    show _ = _ + ((if A 1 (wd (A 0 0) c 0) = 1 ∧ 0 ≠ 0 then 1 else 0) + 0)
    rw [if_neg (fun q => q.2 rfl)]
    rfl
  | succ d ih =>
    intro h
    have e1 : n - (d + 1) = (n - (d + 1 + 1)) + 1 := by omega
    have e2 : dg (A 0 0) n c (n - (d + 1 + 1)) = wd (A 0 0) c (d + 1) := by
      unfold dg wd
      rw [show n - 1 - (n - (d + 1 + 1)) = d + 1 by omega]
    rw [ih (by omega), e1]
    show (elS A _ (n - (d + 1 + 1)) + (if A 1 (dg (A 0 0) n c (n - (d + 1 + 1))) = 1 then 1 else 0)) + hel A c (d + 1) = elS A _ (n - (d + 1 + 1)) + ((if A 1 (wd (A 0 0) c (d + 1)) = 1 ∧ d + 1 ≠ 0 then 1 else 0) + hel A c (d + 1))
    rw [e2]
    by_cases q : A 1 (wd (A 0 0) c (d + 1)) = 1
    · rw [if_pos q, if_pos ⟨q, by omega⟩]; omega
    · rw [if_neg q, if_neg (fun g => q g.1)]; omega
section
variable {N : Nat} {A : Nat → Nat → Nat} {σ τ : XS}
def MRow (A : Nat → Nat → Nat) (d : Nat) (τ : XS) : Prop := ∀ p, p < 2 → IsMax (fun c => hsc A c d p) (fun c => hel A c d) (A 0 0 ^ d) (τ (68 + d) p)
theorem behind_c (hN : 10 ≤ N) (hC : TC A σ) (hW : TW A) {d p : Nat} (hd : d < 4) (hp : p < 2) (hR : MRow A d σ) : ∃ v, fX3_mostBehind N σ (nI (d + 1)) (nI p) = some (v, σ) ∧ IsMax (fun c => hsc A c (d + 1) p) (fun c => hel A c (d + 1)) (A 0 0 ^ (d + 1)) v := by
  have w9 := hW.1
  have key : ∀ (e w m : Nat) (v : Int32), w + e = A 0 0 → e < m → IsMax (fun c => hsc A c (d + 1) p) (fun c => hel A c (d + 1)) (w * A 0 0 ^ d) v → ∃ z, fX3_mostBehind_L17 N (nI (d + 1)) (nI p) (fun x14 m15 => some (x14, m15)) m v (nI w) σ = some (z, σ) ∧ IsMax (fun c => hsc A c (d + 1) p) (fun c => hel A c (d + 1)) (A 0 0 ^ (d + 1)) z := by
    intro e
    induction e with
    | zero =>
      intro w m v hw hm hv
      obtain ⟨m, rfl⟩ : ∃ q, m = q + 1 := ⟨m - 1, by omega⟩
      rw [fX3_mostBehind_L17, hC.1, if_pos (nI_le (by omega) (by omega))]
      refine ⟨v, rfl, ?_⟩
      rw [show w = A 0 0 by omega] at hv
      rw [Nat.pow_succ, Nat.mul_comm]
      exact hv
    | succ e ih =>
      intro w m v hw hm hv
      obtain ⟨m, rfl⟩ : ∃ q, m = q + 1 := ⟨m - 1, by omega⟩
      have w0 : 0 < A 0 0 := by omega
      obtain ⟨k1, k2, k3, k4, k5, k6⟩ := hW.2.2.2.2.1 w (by omega)
      have bl : ∀ c, c < A 0 0 ^ d → hsc A (w * A 0 0 ^ d + c) (d + 1) p = (fitS A w p && hsc A c d ((p + A 2 w) % 2)) := fun c hc => by
        show (fitS A (wd (A 0 0) _ d) p && hsc A _ d ((p + A 2 (wd (A 0 0) _ d)) % 2)) = _
        rw [wd_hi (by omega) hc, hsc_lo w0 _ _ (Nat.le_refl _)]
      have bf : ∀ c, c < A 0 0 ^ d → hel A (w * A 0 0 ^ d + c) (d + 1) = (if A 1 w = 1 ∧ d ≠ 0 then 1 else 0) + hel A c d := fun c hc => by
        show (if A 1 (wd (A 0 0) _ d) = 1 ∧ d ≠ 0 then 1 else 0) + hel A _ d = _
        rw [wd_hi (by omega) hc, hel_lo w0 _ (Nat.le_refl _)]
      have nx : w * A 0 0 ^ d + A 0 0 ^ d = (w + 1) * A 0 0 ^ d := (Nat.succ_mul _ _).symm
      rw [fX3_mostBehind_L17, hC.1, if_neg (nI_ge (by omega) (by omega)), fits_n hC hW (by omega) (by omega), xB_s, b2i0]
      by_cases f : fitS A w p = true
      · rw [if_pos f, nI_pred', xin_t (by omega) (by decide), gd_t, syl_at hC hW (by omega), xB_s, nI_add, and1 (by omega), xin_t (Nat.mod_lt _ (by decide)) (by decide), gd_t, nI_clamp (by omega), nI_clamp (by omega), xLetI_e]
        rcases hR ((p + A 2 w) % 2) (Nat.mod_lt _ (by decide)) with ⟨g1, g2⟩ | ⟨k, b1, b2, ⟨c, c1, c2, c3⟩, b4⟩
        · rw [g1, if_pos rfl, nI_1]
          refine ih (w + 1) m v (by omega) (by omega) ?_
          rw [← nx]
          refine hv.none (fun c hc => ?_)
          show hsc A (w * A 0 0 ^ d + c) (d + 1) p = false
          rw [bl c hc, (show hsc A c d ((p + A 2 w) % 2) = false from g2 c hc), Bool.and_false]
        · have kd : k ≤ d := by
            rw [← c3]; exact hel_le d
          rw [b2, if_neg (ne1 (by omega))]
          have go : ∀ (t : Int32) (j : Nat), (t = 0 ↔ j = 0) → j ≤ 1 → j = (if A 1 w = 1 ∧ d ≠ 0 then 1 else 0) → ∃ v', fX3_mostBehind_J107 N (nI (d + 1)) (nI p) v (nI w) (nI k) t (fX3_mostBehind_L17 N (nI (d + 1)) (nI p) (fun x14 m15 => some (x14, m15)) m) σ = some (v', σ) ∧ IsMax (fun c => hsc A c (d + 1) p) (fun c => hel A c (d + 1)) (A 0 0 ^ (d + 1)) v' := by
            intro t j ht hj hj2
            have st : ∀ u : Int32, u = (if v < nI (j + k) then nI (j + k) else v) → ∃ v', fX3_mostBehind_L17 N (nI (d + 1)) (nI p) (fun x14 m15 => some (x14, m15)) m u (nI (w + 1)) σ = some (v', σ) ∧ IsMax (fun c => hsc A c (d + 1) p) (fun c => hel A c (d + 1)) (A 0 0 ^ (d + 1)) v' := by
              intro u hu
              refine ih (w + 1) m u (by omega) (by omega) ?_
              rw [← nx]
              refine hv.block (by omega) ⟨c, c1, ?_, ?_⟩ (fun x hx hq => ?_) hu
              · show hsc A (w * A 0 0 ^ d + c) (d + 1) p = true
                rw [bl c c1, f, (show hsc A c d ((p + A 2 w) % 2) = true from c2)]; rfl
              · show hel A (w * A 0 0 ^ d + c) (d + 1) = _
                rw [bf c c1, ← hj2, (show hel A c d = k from c3)]
              · have hq2 : hsc A (w * A 0 0 ^ d + x) (d + 1) p = true := hq
                rw [bl x hx, f, Bool.true_and] at hq2
                have := b4 x hx hq2
                show hel A (w * A 0 0 ^ d + x) (d + 1) ≤ _
                rw [bf x hx, ← hj2]
                have h2 : hel A x d ≤ k := this
                omega
            unfold fX3_mostBehind_J107
            by_cases z : j = 0
            · rw [if_pos (ht.mpr z), xLetI_e, nI_1]
              exact st _ (by rw [z, Nat.zero_add])
            · rw [if_neg (fun q => z (ht.mp q)), xLetI_e, nI_1, nI_1]
              exact st _ (by rw [show j + k = k + 1 by omega])
          by_cases d0 : d = 0
          · rw [if_pos (by rw [l1]; exact nI_le (by omega) (by decide))]
            exact go 0 0 ⟨fun _ => rfl, fun _ => rfl⟩ (by omega) (by rw [if_neg (fun q => q.2 d0)])
          · rw [if_neg (by rw [l1]; exact nI_ge (by omega) (by omega)), kind_at hC hW (by omega), xB_s]
            by_cases q : A 1 w = 1
            · rw [q, if_pos (by rfl)]
              exact go 1 1 ⟨fun h => absurd h (by decide), fun h => absurd h (by decide)⟩ (by omega) (by rw [if_pos ⟨q, d0⟩])
            · rw [if_neg (by rw [l1, nI_eq (by omega) (by omega)]; exact q)]
              exact go 0 0 ⟨fun _ => rfl, fun _ => rfl⟩ (by omega) (by rw [if_neg (fun g => q g.1)])
      · have f2 : fitS A w p = false := by cases h : fitS A w p; rfl; exact absurd h f
        rw [if_neg f, nI_1]
        refine ih (w + 1) m v (by omega) (by omega) ?_
        rw [← nx]
        refine hv.none (fun c hc => ?_)
        show hsc A (w * A 0 0 ^ d + c) (d + 1) p = false
        rw [bl c hc, f2, Bool.false_and]
  unfold fX3_mostBehind
  rw [if_neg (by rw [l1]; exact nI_nlt (by omega) (by omega)), l4, if_pos (nI_le (by omega) (by decide))]
  exact key (A 0 0) 0 N (-1) (by omega) (by omega) (Or.inl ⟨rfl, fun c hc => by omega⟩)
theorem most_c (hN : 10 ≤ N) (hC : TC A σ) (hW : TW A) (hz : σ 68 0 = nI 0 ∧ σ 68 1 = nI 0) {n : Nat} (n1 : 1 ≤ n) (n4 : n ≤ 4) : ∃ v τ, fX3_most N σ (nI n) = some (v, τ) ∧ IsMax (fun c => hsc A c n 0) (fun c => hel A c n) (A 0 0 ^ n) v ∧ ∀ a k, ¬ (69 ≤ a ∧ a ≤ 72) → τ a k = σ a k := by
  have key : ∀ (e d m : Nat) (τ : XS), d + e = n → e < m → (∀ a k, ¬ (69 ≤ a ∧ a ≤ 72) → τ a k = σ a k) → MRow A d τ → ∃ v τ', fX3_most_L2 N (nI n) (fun m15 => fX3_most_J46 N (nI n) m15) m (nI (d + 1)) τ = some (v, τ') ∧ IsMax (fun c => hsc A c n 0) (fun c => hel A c n) (A 0 0 ^ n) v ∧ ∀ a k, ¬ (69 ≤ a ∧ a ≤ 72) → τ' a k = σ a k := by
    intro e
    induction e with
    | zero =>
      intro d m τ hd hm f1 f2
      obtain ⟨m, rfl⟩ : ∃ q, m = q + 1 := ⟨m - 1, by omega⟩
      rw [show d = n by omega] at f2 ⊢
      rw [fX3_most_L2, if_pos (nI_lt (by omega) (by omega))]
      unfold fX3_most_J46
      rw [if_neg (nI_pos (by omega)), l4, if_neg (nI_nlt (by omega) (by omega)), xin_t (by omega) (by decide), gd_t, show xin 0 2 = true from rfl, gd_t, c0, nI_clamp (by omega)]
      exact ⟨_, τ, rfl, f2 0 (by omega), f1⟩
    | succ e ih =>
      intro d m τ hd hm f1 f2
      obtain ⟨m, rfl⟩ : ∃ q, m = q + 1 := ⟨m - 1, by omega⟩
      obtain ⟨v, v1, v2⟩ := behind_c (N := N) (p := 0) hN (hC.eq (fun a k g1 g2 => f1 a k (by omega))) hW (by omega) (by omega) f2
      have f3 : MRow A d (xUp τ (68 + (d + 1)) 0 v) := fun p hp => by rw [up_c (by omega)]; exact f2 p hp
      obtain ⟨u, u1, u2⟩ := behind_c (N := N) (σ := xUp τ (68 + (d + 1)) 0 v) (p := 1) hN (hC.eq (fun a k g1 g2 => by rw [up_c (by omega)]; exact f1 a k (by omega))) hW (by omega) (by omega) f3
      rw [fX3_most_L2, if_neg (nI_nlt (by omega) (by omega)), l4, if_neg (nI_nlt (by omega) (by omega)), xin_t (by omega) (by decide), gd_t, show (0 : Int32) = nI 0 from rfl, v1, xB_s, xLet_e, show xin (nI 0) 2 = true from rfl, gd_t, gd_t, nI_clamp (by omega), nI_clamp (by omega), show (1 : Int32) = nI 1 from rfl, u1, xB_s, xLet_e, show xin (nI 1) 2 = true from rfl, gd_t, nI_clamp (by omega), nI_add]
      refine ih (d + 1) m _ (by omega) (by omega) (fun a k ha => ?_) (fun p hp => ?_)
      · rw [up_c (by omega), up_c (by omega)]
        exact f1 a k ha
      · rcases (show p = 0 ∨ p = 1 by omega) with rfl | rfl
        · rw [up_c (by omega), up_s]
          exact v2
        · rw [up_s]
          exact u2
  unfold fX3_most
  refine key n 0 N σ (by omega) (by omega) (fun _ _ _ => rfl) (fun p hp => ?_)
  refine Or.inr ⟨0, by omega, ?_, ⟨0, by rw [Nat.pow_zero]; omega, rfl, rfl⟩, fun c hc _ => Nat.le_refl _⟩
  rcases (show p = 0 ∨ p = 1 by omega) with rfl | rfl
  · exact hz.1
  · exact hz.2
theorem hidden_m (hN : 10000 ≤ N) (hM : TM A (σ 86)) (hW : TW A) {n : Nat} (n1 : 1 ≤ n) (n4 : n ≤ 4) : ∃ v τ, fX10_hidden_L26 N (nI n) (nI (A 0 0 ^ n)) (fun x19 m20 => some (x19, m20)) N (-1) 0 σ = some (v, τ) ∧ IsMax (fun c => hsc A c n 0) (fun c => hel A c n) (A 0 0 ^ n) v ∧ ∀ a k, a ≠ 94 → τ a k = σ a k := by
  have w9 := hW.1
  have hpow : A 0 0 ^ n ≤ 6561 := by
    have e1 : A 0 0 ^ n ≤ 9 ^ n := Nat.pow_le_pow_left w9 n
    have e2 : 9 ^ n ≤ 9 ^ 4 := Nat.pow_le_pow_right (by decide) n4
    have e3 : 9 ^ 4 = 6561 := rfl
    omega
  have key : ∀ (e c m : Nat) (v : Int32) (τ : XS), c + e = A 0 0 ^ n → e < m → (∀ a k, a ≠ 94 → τ a k = σ a k) → IsMax (fun c => hsc A c n 0) (fun c => hel A c n) c v → ∃ z τ', fX10_hidden_L26 N (nI n) (nI (A 0 0 ^ n)) (fun x19 m20 => some (x19, m20)) m v (nI c) τ = some (z, τ') ∧ IsMax (fun c => hsc A c n 0) (fun c => hel A c n) (A 0 0 ^ n) z ∧ ∀ a k, a ≠ 94 → τ' a k = σ a k := by
    intro e
    induction e with
    | zero =>
      intro c m v τ hc hm f1 f2
      obtain ⟨m, rfl⟩ : ∃ q, m = q + 1 := ⟨m - 1, by omega⟩
      rw [fX10_hidden_L26, if_pos (nI_le (by omega) (by omega))]
      rw [show c = A 0 0 ^ n by omega] at f2
      exact ⟨v, τ, rfl, f2, f1⟩
    | succ e ih =>
      intro c m v τ hc hm f1 f2
      obtain ⟨m, rfl⟩ : ∃ q, m = q + 1 := ⟨m - 1, by omega⟩
      have hW0 : 0 < A 0 0 := by
        rcases Nat.eq_zero_or_pos (A 0 0) with e | e
        · rw [e, Nat.zero_pow (by omega)] at hc; omega
        · exact e
      obtain ⟨ν, v1, v2, v3⟩ := lays_m (N := N) (σ := τ) (W := A 0 0) (n := n) (c := c) (by omega) ((f1 _ _ (by omega)).trans hM.1) hW0 (by omega) (by omega) (by omega)
      have fr : ∀ a k, a ≠ 94 → ν a k = σ a k := fun a k ha => (v3 a k ha).trans (f1 a k ha)
      have hL : MLn A ν 94 n (dg (A 0 0) n c) := ⟨hM.eqL hW (fun k _ => fr _ _ (by omega)), hW, by show n ≤ 6; omega, by decide, fun i hi => ⟨dg_lt hW0, v2 i hi⟩⟩
      have tie1 : scanS A (dg (A 0 0) n c) n = hsc A c n 0 := by
        rw [hsc_tie n (Nat.le_refl _), Nat.sub_self]; rfl
      have tie2 : elS A (dg (A 0 0) n c) (n - 1) = hel A c n := by
        have := hel_tie (A := A) (n := n) (c := c) (n - 1) (by omega)
        rw [show n - 1 + 1 = n by omega, Nat.sub_self] at this
        rw [this]; exact Nat.zero_add _
      have hl : ∀ i, i < n → dg (A 0 0) n c i < A 0 0 := fun i _ => dg_lt hW0
      obtain ⟨y1, y2, y3⟩ := sylS_le hW n hl
      obtain ⟨z1, z2, z3⟩ := sylS_le hW (n - 1) (fun i hi => hl i (by omega))
      have z4 := sylS_mono (A := A) (l := dg (A 0 0) n c) (show n - 1 ≤ n by omega)
      rw [fX10_hidden_L26, if_neg (nI_ge (by omega) (by omega)), v1, xB_s, scan_m (by omega) hL, xB_s, b2i0, tie1, nI_1]
      by_cases g : hsc A c n 0 = true
      · have e1 : cntS A 1 (dg (A 0 0) n c) n = sylS A (dg (A 0 0) n c) n - elS A (dg (A 0 0) n c) (n - 1) := if_pos rfl
        rw [if_pos g, told_m (by omega) hL, xB_s, show (1 : Int32) = nI 1 from rfl, counted_m (by omega) hL (by omega), xB_s, e1, pk_sub (by omega), show sylS A (dg (A 0 0) n c) n - (sylS A (dg (A 0 0) n c) n - elS A (dg (A 0 0) n c) (n - 1)) = hel A c n by omega]
        have hle := hel_le (A := A) (c := c) n
        have st : IsMax (fun c => hsc A c n 0) (fun c => hel A c n) (c + 1) (if v < nI (hel A c n) then nI (hel A c n) else v) := by
          refine f2.block (L := 1) (j := hel A c n) (by omega) ⟨0, by omega, g, rfl⟩ (fun x hx _ => ?_) rfl
          rw [show x = 0 by omega]
          exact Nat.le_refl _
        by_cases q : nI (hel A c n) ≤ v
        · rw [if_pos q]
          rw [if_neg (Int32.not_lt.mpr q)] at st
          exact ih (c + 1) m v ν (by omega) (by omega) fr st
        · rw [if_neg q]
          rw [if_pos (Int32.not_le.mp q)] at st
          exact ih (c + 1) m _ ν (by omega) (by omega) fr st
      · have g2 : hsc A c n 0 = false := by cases h : hsc A c n 0; rfl; exact absurd h g
        have vm : (-1 : Int32) ≤ v := by
          rcases f2 with ⟨h1, _⟩ | ⟨k, k1, k2, _⟩
          · rw [h1]; decide
          · rw [k2]; exact Int32.le_of_lt (ltm (by omega))
        rw [if_neg g, if_pos vm]
        exact ih (c + 1) m v ν (by omega) (by omega) fr (f2.none (L := 1) (fun x hx => by rw [show x = 0 by omega]; exact g2))
  exact key (A 0 0 ^ n) 0 N (-1) σ (by omega) (by omega) (fun _ _ _ => rfl) (Or.inl ⟨rfl, fun c hc => by omega⟩)
end
theorem sim_hidden {N : Nat} (hN : 10000 ≤ N) : Sim25 N RR := by
  intro σ a hR
  obtain ⟨A, h⟩ := id hR
  have hz := h.2.2.2.2.2.2.1
  have hin : ∀ τ : XS, fX10_in N τ a.toInt64 1 4 = some (if (1 : Int32) ≤ a ∧ a ≤ 4 then 1 else 0, τ) := fun τ => in_spec2 1 4 rfl rfl
  by_cases hr : (1 : Int32) ≤ a ∧ a ≤ 4
  · obtain ⟨n, hn, rfl⟩ := nI_of2 (M := 4) (n := 4) (by decide) (fun q => absurd (Int32.lt_of_le_of_lt hr.1 q) (by decide)) hr.2
    have n1 : 1 ≤ n := (nI_leI (by omega) (by omega)).mp hr.1
    obtain ⟨v, τ, t1, t2, t3⟩ := most_c (N := N) (by omega) h.tc h.tw hz n1 hn
    obtain ⟨u, ρ, r1, r2, r3⟩ := hidden_m (σ := τ) hN (h.tm.eqL h.tw (fun k _ => t3 _ _ (by omega))) h.tw n1 hn
    have e := t2.uniq r2
    subst e
    refine sim_kp (f := fun σ => fX9_hidden N σ (nI n)) (g := fun σ => fX10_hidden N σ (nI n)) (r := v) (σ1 := τ) (σ2 := ρ) hR ?_ ?_ ?_ ?_
    · show fX9_hidden N σ (nI n) = _
      unfold fX9_hidden
      rw [if_neg (Int32.not_lt.mpr hr.1), if_pos hr.2, t1, xB_s]
    · show fX10_hidden N τ (nI n) = _
      unfold fX10_hidden
      rw [hin, xB_s, ite1, if_pos hr, ways_m (by omega) ((t3 _ _ (by omega)).trans h.w.2.1) (by omega), xB_s]
      exact r1
    · intro a k q
      refine t3 a k (fun g => ?_)
      rcases (show a = 69 ∨ a = 70 ∨ a = 71 ∨ a = 72 by omega) with rfl | rfl | rfl | rfl <;> exact absurd (q.symm.trans (show lv _ _ = false from rfl)) (by decide)
    · intro a k q
      refine r3 a k (fun g => ?_)
      subst g
      exact absurd (q.symm.trans (show lv _ _ = false from rfl)) (by decide)
  · refine sim_mk (f := fun σ => fX9_hidden N σ a) (g := fun σ => fX10_hidden N σ a) (-3) σ σ ?_ ?_ hR
    · show fX9_hidden N σ a = _
      unfold fX9_hidden
      by_cases q : a < 1
      · rw [if_pos q]
      · rw [if_neg q, if_neg (fun g => hr ⟨Int32.not_lt.mp q, g⟩)]
    · show fX10_hidden N σ a = _
      unfold fX10_hidden
      rw [hin, xB_s, ite1, if_neg hr]
