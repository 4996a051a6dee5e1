/-! WHAT A SECRET LINE CAN BE: the class -/
theorem bit6 : ∀ b, b < 64 → ∀ i, i < 6 → nI b ||| (1 <<< (nI i &&& 31)) = nI (b ||| 2 ^ i) ∧ b ||| 2 ^ i < 64 ∧ ((((nI b >>> (nI i &&& 31)) &&& 1) = 1) → b ||| 2 ^ i = b) := by decide +kernel
theorem up_up {σ : XS} {c k : Nat} {v w : Int32} : xUp (xUp σ c k v) c k w = xUp σ c k w := by
  funext a
  funext b
  by_cases q : a = c ∧ b = k
  · obtain ⟨rfl, rfl⟩ := q
    rw [up_s, up_s]
  · rw [up_c (by omega), up_c (by omega), up_c (by omega)]
theorem up_id {σ : XS} {c k : Nat} : xUp σ c k (σ c k) = σ := by
  funext a
  funext b
  by_cases q : a = c ∧ b = k
  · obtain ⟨rfl, rfl⟩ := q
    rw [up_s]
  · rw [up_c (by omega)]
theorem cpy6 {f g : Nat → Int32} {k : Nat} (h : k < 6) : va_cpy f g (0 : Int32).toNatClampNeg (0 : Int32).toNatClampNeg (6 : Int32).toNatClampNeg k = f k := by
  show va_cpy f g 0 0 6 k = f k
  rw [pk_cpy_in (by omega) (by omega)]
  exact congrArg _ (by omega)
/-- agrees with what clerks counted -/
def agS (A : Nat → Nat → Nat) (cl nu l : Nat → Nat) (n : Nat) : Nat → Nat → Bool
  | 0, _ => true
  | d + 1, i => decide (nu i = cntS A (A 8 (cl i)) l n) && agS A cl nu l n d (i + 1)
/-- the wares of P, kept as a set of bits below 64 -/
def wbS (P : Nat → Bool) : Nat → Nat → Nat → Nat
  | 0, _, b => b
  | d + 1, i, b => wbS P d (i + 1) (if P i = true then b ||| 2 ^ i else b)
theorem wbS_lt {P : Nat → Bool} : ∀ d i b, i + d ≤ 6 → b < 64 → wbS P d i b < 64 := by
  intro d
  induction d with
  | zero => intro i b _ h; exact h
  | succ d ih =>
    intro i b hi h
    show wbS P d (i + 1) _ < 64
    by_cases q : P i = true
    · rw [if_pos q]; exact ih _ _ (by omega) (bit6 b h i (by omega)).2.1
    · rw [if_neg q]; exact ih _ _ (by omega) h
theorem wbS_f {P : Nat → Bool} (h : ∀ i, P i = false) : ∀ d i b, wbS P d i b = b := by
  intro d
  induction d with
  | zero => intro i b; rfl
  | succ d ih =>
    intro i b
    show wbS P d (i + 1) (if P i = true then _ else _) = b
    rw [h i]
    exact ih _ _
def ps (A : Nat → Nat → Nat) (l : Nat → Nat) (n a : Nat) : Bool := decide (0 < A 0 2) && passS A l n a (A 8 0)
/-- found among the first c lines; the first of them; what they share; the wares -/
def Fc (G : Nat → Bool) : Nat → Nat
  | 0 => 0
  | c + 1 => if G c = true then Fc G c + 1 else Fc G c
def fst (G : Nat → Bool) : Nat → Nat
  | 0 => 0
  | c + 1 => if G c = true ∧ Fc G c = 0 then c else fst G c
def shS (G : Nat → Bool) (D : Nat → Nat → Nat) : Nat → Nat → Int32
  | 0, _ => 0
  | c + 1, i => if G c = true then (if Fc G c = 0 then nI (D c i) else if shS G D c i = nI (D c i) then nI (D c i) else -1) else shS G D c i
def wbC (G : Nat → Bool) (P : Nat → Nat → Bool) (a : Nat) : Nat → Nat
  | 0 => 0
  | c + 1 => if G c = true then wbS (P c) a 0 (wbC G P a c) else wbC G P a c
theorem Fc_le {G : Nat → Bool} : ∀ c, Fc G c ≤ c := by
  intro c
  induction c with
  | zero => exact Nat.le_refl _
  | succ c ih =>
    unfold Fc
    by_cases q : G c = true
    · rw [if_pos q]; omega
    · rw [if_neg q]; omega
theorem wbC_lt {G : Nat → Bool} {P : Nat → Nat → Bool} {a : Nat} (ha : a ≤ 6) : ∀ c, wbC G P a c < 64 := by
  intro c
  induction c with
  | zero => exact (by decide : 0 < 64)
  | succ c ih =>
    unfold wbC
    by_cases q : G c = true
    · rw [if_pos q]; exact wbS_lt _ _ _ (by omega) ih
    · rw [if_neg q]; exact ih
section
variable {N : Nat} {A : Nat → Nat → Nat} {σ τ : XS} {n : Nat} {l cl nu : Nat → Nat}
theorem CLn.eq78 (h : CLn A σ 78 n l) (e : ∀ a k, (1 ≤ a ∧ a ≤ 10) ∨ a = 78 ∨ a = 79 → τ a k = σ a k) : CLn A τ 78 n l :=
  ⟨h.1.eq (fun a k g1 g2 => e a k (by omega)), h.2.1, (e _ _ (by omega)).trans h.2.2.1, h.2.2.2.1, fun i hi => ⟨(h.2.2.2.2 i hi).1, (e 79 i (by omega)).trans (h.2.2.2.2 i hi).2⟩⟩
theorem agrees_c (hN : 10 ≤ N) (h : CLn A σ 78 n l) {m : Nat} (hm : m ≤ 6) (hs : σ 75 7 = nI m) (hc : ∀ i, i < m → cl i < A 0 2 ∧ nu i ≤ 24 ∧ σ 76 i = nI (cl i) ∧ σ 77 i = nI (nu i)) : fX5_agrees N σ = some (b2i (agS A cl nu l n m 0), σ) := by
  have hl : ∀ i, i < n → l i < A 0 0 := fun i hi => (h.2.2.2.2 i hi).1
  obtain ⟨y1, y2, y3⟩ := sylS_le h.2.1 n hl
  obtain ⟨z1, z2, z3⟩ := sylS_le h.2.1 (n - 1) (fun i hi => hl i (by omega))
  have z4 := sylS_mono (A := A) (l := l) (show n - 1 ≤ n by omega)
  have n6 := h.2.2.2.1
  have key : ∀ (d i q : Nat), i + d = m → d < q → fX5_agrees_L28 N (nI (sylS A l n)) (nI (sylS A l n - elS A l (n - 1))) (fun m10 => some (0, m10)) (fun m11 => some (1, m11)) q (nI i) σ = some (b2i (agS A cl nu l n d i), σ) := by
    intro d
    induction d with
    | zero =>
      intro i q hi hq
      obtain ⟨q, rfl⟩ : ∃ r, q = r + 1 := ⟨q - 1, by omega⟩
      rw [fX5_agrees_L28, hs, if_pos (nI_le (by omega) (by omega))]; rfl
    | succ d ih =>
      intro i q hi hq
      obtain ⟨q, rfl⟩ : ∃ r, q = r + 1 := ⟨q - 1, by omega⟩
      obtain ⟨c1, c2', c3', c4'⟩ := hc i (by omega)
      rw [fX5_agrees_L28, hs, if_neg (nI_ge (by omega) (by omega)), l6, if_neg (nI_ge (by omega) (by omega)), xin_t (by omega) (by decide), gd_t, gd_t, nI_clamp (by omega), c3', c4', slurs_n h.1 h.2.1 c1, xB_s, b2i0, nI_1, ih (i + 1) q (by omega) (by omega)]
      show _ = some (b2i (decide (nu i = cntS A (A 8 (cl i)) l n) && agS A cl nu l n d (i + 1)), σ)
      unfold cntS
      by_cases k1 : A 8 (cl i) = 1
      · rw [if_pos (decide_eq_true k1), if_pos k1]
        by_cases e : nu i = sylS A l n - elS A l (n - 1)
        · rw [if_pos (by rw [e]), decide_eq_true e, Bool.true_and]
        · rw [if_neg (by rw [nI_eq (by omega) (by omega)]; exact e), decide_eq_false e]; rfl
      · rw [if_neg (by simpa using k1), if_neg k1]
        by_cases e : nu i = sylS A l n
        · rw [if_pos (by rw [e]), decide_eq_true e, Bool.true_and]
        · rw [if_neg (by rw [nI_eq (by omega) (by omega)]; exact e), decide_eq_false e]; rfl
  unfold fX5_agrees
  rw [sylOf hN h, xB_s, elOf hN h, xB_s, pk_sub (by omega)]
  exact key m 0 N (by omega) (by omega)
theorem move_c (hN : 10 ≤ N) {W c : Nat} (hW : 0 < W) (hW9 : W < 100) (hn : n ≤ 3) (h1 : σ 75 6 = nI n) (h2 : σ 1 9 = nI W) (h3 : ∀ i, i < n → σ 79 i = nI (dg W n c i)) : ∃ τ, fX5_moveOn N σ = some (0, τ) ∧ (∀ i, i < n → τ 79 i = nI (dg W n (c + 1) i)) ∧ ∀ a k, a ≠ 79 → τ a k = σ a k := by
  have key : ∀ (d m : Nat) (ρ : XS), d ≤ n → d < m → (c + 1) % W ^ (n - d) = 0 → (∀ a k, a ≠ 79 → ρ a k = σ a k) → (∀ i, i < d → ρ 79 i = nI (dg W n c i)) → (∀ i, d ≤ i → i < n → ρ 79 i = nI (dg W n (c + 1) i)) → ∃ τ, fX5_moveOn_L11 N (fun m8 => some (0, m8)) (fun m9 => some (0, m9)) m (nI d - 1) ρ = some (0, τ) ∧ (∀ i, i < n → τ 79 i = nI (dg W n (c + 1) i)) ∧ ∀ a k, a ≠ 79 → τ a k = σ a k := by
    intro d
    induction d with
    | zero =>
      intro m ρ hd hm hc f1 f2 f3
      obtain ⟨m, rfl⟩ : ∃ q, m = q + 1 := ⟨m - 1, by omega⟩
      rw [fX5_moveOn_L11, if_pos (by decide)]
      exact ⟨ρ, rfl, fun i hi => f3 i (by omega) hi, f1⟩
    | succ d ih =>
      intro m ρ hd hm hc f1 f2 f3
      obtain ⟨m, rfl⟩ : ∃ q, m = q + 1 := ⟨m - 1, by omega⟩
      have dl := dg_lt (W := W) (n := n) (c := c) (i := d) hW
      have hk : n - (d + 1) = n - 1 - d := by omega
      rw [hk] at hc
      have nx := dg_next (W := W) (n := n) (c := c) (i := d)
      rw [if_pos hc, mod_next hW] at nx
      have cr := carry hW hc
      have e9 : ρ 1 9 = nI W := (f1 _ _ (by omega)).trans h2
      rw [fX5_moveOn_L11, nI_pred', if_neg (nI_pos (by omega)), xin_t (by omega) (by decide), gd_t, nI_clamp (by omega), f2 d (by omega), xLet_e, gd_t, gd_t, up_c (by omega), e9, up_s, nI_1]
      by_cases q : dg W n c d + 1 = W
      · have q2 : c / W ^ (n - 1 - d) % W + 1 = W := q
        rw [if_pos q2] at nx
        rw [if_pos (nI_le (by omega) (by omega)), xLet_e, gd_t, up_up, sub_m1]
        refine ih m _ (by omega) (by omega) ?_ (fun a k ha => by rw [up_c (by omega)]; exact f1 a k ha) (fun i hi => by rw [up_c (by omega)]; exact f2 i (by omega)) (fun i hi hi2 => ?_)
        · rw [show n - d = n - 1 - d + 1 by omega]
          exact cr.mpr q2
        · by_cases e : i = d
          · subst e
            rw [up_s, nx]; rfl
          · rw [up_c (by omega)]
            exact f3 i (by omega) hi2
      · have q2 : ¬ c / W ^ (n - 1 - d) % W + 1 = W := q
        rw [if_neg q2] at nx
        rw [if_neg (nI_ge (by omega) (by omega))]
        refine ⟨_, rfl, fun i hi => ?_, fun a k ha => by rw [up_c (by omega)]; exact f1 a k ha⟩
        by_cases e : i = d
        · subst e
          rw [up_s, nx]; rfl
        · rw [up_c (by omega)]
          by_cases g : i < d
          · rw [f2 i (by omega), dg_next, if_neg (no_carry (k := n - 1 - d + 1) (fun z => q2 (cr.mp z)) (by omega))]
          · exact f3 i (by omega) hi
  unfold fX5_moveOn
  rw [h1, l3, if_neg (nI_nlt hn (by omega)), xLetI_e]
  exact key n N σ (Nat.le_refl _) (by omega) (by rw [Nat.sub_self, Nat.pow_zero, Nat.mod_one]) (fun _ _ _ => rfl) h3 (fun i g1 g2 => by omega)
theorem share_c (hN : 10 ≤ N) (hn : n ≤ 3) (h1 : σ 75 6 = nI n) (h3 : ∀ i, i < n → σ 79 i = nI (l i)) {k : XS → Option XO} : ∃ τ, fX5_take_L41 N k N 0 σ = k τ ∧ (∀ i, i < n → τ 83 i = if σ 83 i = nI (l i) then nI (l i) else -1) ∧ ∀ a k, a ≠ 83 → τ a k = σ a k := by
  have key : ∀ (d i m : Nat) (ρ : XS), i + d = n → d < m → (∀ a k, a ≠ 83 → ρ a k = σ a k) → (∀ j, i ≤ j → ρ 83 j = σ 83 j) → (∀ j, j < i → ρ 83 j = if σ 83 j = nI (l j) then nI (l j) else -1) → ∃ τ, fX5_take_L41 N k m (nI i) ρ = k τ ∧ (∀ i, i < n → τ 83 i = if σ 83 i = nI (l i) then nI (l i) else -1) ∧ ∀ a k, a ≠ 83 → τ a k = σ a k := by
    intro d
    induction d with
    | zero =>
      intro i m ρ hi hm f1 f2 f3
      obtain ⟨m, rfl⟩ : ∃ q, m = q + 1 := ⟨m - 1, by omega⟩
      rw [fX5_take_L41, f1 _ _ (by omega), h1, if_pos (nI_le (by omega) (by omega))]
      exact ⟨ρ, rfl, fun j hj => f3 j (by omega), f1⟩
    | succ d ih =>
      intro i m ρ hi hm f1 f2 f3
      obtain ⟨m, rfl⟩ : ∃ q, m = q + 1 := ⟨m - 1, by omega⟩
      rw [fX5_take_L41, f1 75 6 (by omega), h1, if_neg (nI_ge (by omega) (by omega)), l3, if_neg (nI_ge (by omega) (by omega)), xin_t (by omega) (by decide), gd_t, gd_t, nI_clamp (by omega), f2 i (by omega), f1 79 i (by omega), h3 i (by omega)]
      by_cases q : σ 83 i = nI (l i)
      · rw [if_pos q, nI_1]
        refine ih (i + 1) m ρ (by omega) (by omega) f1 (fun j hj => f2 j (by omega)) (fun j hj => ?_)
        by_cases e : j = i
        · subst e
          rw [f2 j (by omega), if_pos q, q]
        · exact f3 j (by omega)
      · rw [if_neg q, xLet_e, gd_t, nI_1]
        refine ih (i + 1) m _ (by omega) (by omega) (fun a k ha => by rw [up_c (by omega)]; exact f1 a k ha) (fun j hj => by rw [up_c (by omega)]; exact f2 j (by omega)) (fun j hj => ?_)
        by_cases e : j = i
        · subst e
          rw [up_s, if_neg q]
        · rw [up_c (by omega)]
          exact f3 j (by omega)
  exact key n 0 N σ (by omega) (by omega) (fun _ _ _ => rfl) (fun _ _ => rfl) (fun j hj => by omega)
theorem wares_c (hN : 10 ≤ N) (h : CLn A σ 78 n l) {b : Nat} (hb : b < 64) (h9 : σ 75 9 = nI b) : fX5_take_J91 N σ = some (0, xUp σ 75 9 (nI (wbS (ps A l n) (A 0 1) 0 b))) := by
  have a1 := h.1.2.1
  have a3 := h.2.1.2.1
  have c1 := h.1.2.2.1
  have c3 := h.2.1.2.2.1
  have hid : xUp σ 75 9 (nI b) = σ := by rw [← h9]; exact up_id
  unfold fX5_take_J91
  rw [isClerk_c c1 (by omega), xB_s, ite1]
  by_cases z : 0 < A 0 2
  · rw [if_pos ⟨0, z, rfl⟩]
    have key : ∀ (d i m b : Nat), i + d = A 0 1 → d < m → b < 64 → fX5_take_L105 N (fun m18 => some (0, m18)) m (nI i) (xUp σ 75 9 (nI b)) = some (0, xUp σ 75 9 (nI (wbS (ps A l n) d i b))) := by
      intro d
      induction d with
      | zero =>
        intro i m b hi hm hb
        obtain ⟨m, rfl⟩ : ∃ q, m = q + 1 := ⟨m - 1, by omega⟩
        rw [fX5_take_L105, up_c (by omega), a1, if_pos (nI_le (by omega) (by omega))]; rfl
      | succ d ih =>
        intro i m b hi hm hb
        obtain ⟨m, rfl⟩ : ∃ q, m = q + 1 := ⟨m - 1, by omega⟩
        obtain ⟨b1, b2, b3⟩ := bit6 b hb i (by omega)
        have hp : ps A l n i = passS A l n i (A 8 0) := by unfold ps; rw [decide_eq_true z, Bool.true_and]
        have st : wbS (ps A l n) (d + 1) i b = wbS (ps A l n) d (i + 1) (if passS A l n i (A 8 0) = true then b ||| 2 ^ i else b) := by
          show wbS (ps A l n) d (i + 1) (if ps A l n i = true then b ||| 2 ^ i else b) = _
          rw [hp]
        have hC : CLn A (xUp σ 75 9 (nI b)) 78 n l := h.eq78 (fun a k _ => up_c (by omega))
        rw [fX5_take_L105, up_c (by omega), a1, if_neg (nI_ge (by omega) (by omega)), up_s, st]
        unfold fX9_hasBit
        by_cases q : ((nI b >>> (nI i &&& 31)) &&& 1) = 1
        · have eb : (if passS A l n i (A 8 0) = true then b ||| 2 ^ i else b) = b := by rw [b3 q]; exact ite_self _
          rw [if_pos q, xB_s, if_neg (by decide), nI_1, ih (i + 1) m b (by omega) (by omega) hb, eb]
        · rw [if_neg q, xB_s, if_pos rfl, show (0 : Int32) = nI 0 from rfl, admits_n hN hC (show i < A 0 1 by omega) z, xB_s, ← l0, b2i0]
          by_cases p : passS A l n i (A 8 0) = true
          · rw [if_pos p, if_pos p, xLet_e, up_s, b1, up_up, nI_1, ih (i + 1) m _ (by omega) (by omega) b2]
          · rw [if_neg p, if_neg p, nI_1, ih (i + 1) m b (by omega) (by omega) hb]
    have := key (A 0 1) 0 N b (by omega) (by omega) hb
    rw [hid] at this
    exact this
  · rw [if_neg (fun ⟨j, hj, _⟩ => by omega), wbS_f (fun i => by unfold ps; rw [decide_eq_false z]; rfl), hid]
end
