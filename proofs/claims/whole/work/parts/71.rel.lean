/-! THE RELATION between the class's cells and the reference's -/
/-- what texts told, as a row of the reference holds it: A 0: how many words, wares, clerks, the metre; A 1 .. 4: a word's kind, syllables, stress, rhyme; A 5: a port's rhyme; A 6, 7: a ware's weight, port; A 8: a clerk's kind; A 9: a rhyme's uses -/
def TM (A : Nat → Nat → Nat) (g : Nat → Int32) : Prop := g 0 = nI (A 0 0) ∧ g 1 = nI (A 0 1) ∧ g 2 = nI (A 0 2) ∧ g 3 = nI (A 0 3) ∧
  (∀ w, w < A 0 0 → g (6 + 4 * w) = nI (A 1 w) ∧ g (6 + 4 * w + 1) = nI (A 2 w) ∧ g (6 + 4 * w + 2) = nI (A 3 w) ∧ g (6 + 4 * w + 3) = nI (A 4 w)) ∧
  (∀ p, p < 4 → g (42 + p) = nI (A 5 p)) ∧ (∀ a, a < A 0 1 → g (46 + 3 * a) = nI (A 6 a) ∧ g (46 + 3 * a + 1) = nI (A 7 a)) ∧
  (∀ c, c < A 0 2 → g (64 + c) = nI (A 8 c)) ∧ ∀ r, r < 6 → g (73 + r) = nI (A 9 r)
def TC (A : Nat → Nat → Nat) (σ : XS) : Prop := σ 1 9 = nI (A 0 0) ∧ σ 1 10 = nI (A 0 1) ∧ σ 1 11 = nI (A 0 2) ∧ σ 1 12 = nI (A 0 3) ∧
  (∀ w, w < A 0 0 → σ 2 w = nI (A 1 w) ∧ σ 3 w = nI (A 2 w) ∧ σ 4 w = nI (A 3 w) ∧ σ 5 w = nI (A 4 w)) ∧
  (∀ p, p < 4 → σ 6 p = nI (A 5 p)) ∧ (∀ a, a < A 0 1 → σ 7 a = nI (A 6 a) ∧ σ 8 a = nI (A 7 a)) ∧
  (∀ c, c < A 0 2 → σ 9 c = nI (A 8 c)) ∧ ∀ r, r < 6 → σ 10 r = nI (A 9 r)
def TW (A : Nat → Nat → Nat) : Prop := A 0 0 ≤ 9 ∧ A 0 1 ≤ 6 ∧ A 0 2 ≤ 3 ∧ A 0 3 ≤ 2 ∧
  (∀ w, w < A 0 0 → A 1 w ≤ 3 ∧ 1 ≤ A 2 w ∧ A 2 w ≤ 4 ∧ 1 ≤ A 3 w ∧ A 3 w ≤ A 2 w ∧ A 4 w ≤ 5) ∧
  (∀ p, p < 4 → A 5 p ≤ 5) ∧ (∀ a, a < A 0 1 → 1 ≤ A 6 a ∧ A 6 a ≤ 12 ∧ A 7 a ≤ 3) ∧ (∀ c, c < A 0 2 → A 8 c ≤ 2) ∧ ∀ r, r < 6 → A 9 r ≤ 9
/-- what days change: the class's row f, the reference's row g -/
def SN (A : Nat → Nat → Nat) (f g : Nat → Int32) : Prop := (∃ d, d ≤ 99 ∧ f 0 = nI d ∧ g 4 = nI d) ∧ f 1 = g 5 ∧ (∀ a, a < 6 → ∃ t, t ≤ 3 ∧ f (2 + a) = nI t ∧ g (48 + 3 * a) = nI t) ∧ (∀ r, r < 6 → ∃ n, n ≤ A 9 r ∧ f (8 + r) = nI n ∧ g (67 + r) = nI n) ∧ TM A g
/-- what can be undone, what is kept -/
def UD (A : Nat → Nat → Nat) (σ : XS) : Prop := (∃ u nx, u ≤ 8 ∧ nx < 8 ∧ σ 29 5 = nI u ∧ σ 85 2 = nI u ∧ σ 29 4 = nI nx ∧ ∀ i, i < u → SN A (σ (32 + (nx + 7 - i) % 8)) (fun k => σ 87 (98 * (u - 1 - i) + k))) ∧
  ∀ k, k < 2 → ∃ b, b ≤ 1 ∧ σ 43 k = nI b ∧ σ 89 k = nI b ∧ (b = 1 → SN A (σ (41 + k)) (fun j => σ 88 (98 * k + j)))
def LN (A : Nat → Nat → Nat) (σ : XS) : Prop := ∃ (n : Nat) (l : Nat → Nat), n ≤ 6 ∧ σ 44 1 = nI n ∧ σ 85 6 = nI n ∧ ∀ i, i < n → l i < A 0 0 ∧ σ 45 i = nI (l i) ∧ σ 90 i = nI (l i)
def TX (σ : XS) : Prop := ∃ (n : Nat) (t : Nat → Nat), n ≤ 160 ∧ σ 11 3 = nI n ∧ σ 85 11 = nI n ∧ ∀ i, i < n → t i < 256 ∧ σ 12 i = nI (t i) ∧ σ 92 i = nI (t i)
def SC (A : Nat → Nat → Nat) (σ : XS) : Prop := (σ 68 0 = nI 0 ∧ σ 68 1 = nI 0) ∧ ∃ (s m : Nat) (cl nu : Nat → Nat), s ≤ 3 ∧ m ≤ 6 ∧ σ 75 6 = nI s ∧ σ 85 9 = nI s ∧ σ 75 7 = nI m ∧ σ 85 8 = nI m ∧ ∀ i, i < m → cl i < A 0 2 ∧ nu i ≤ 24 ∧ σ 76 i = nI (cl i) ∧ σ 77 i = nI (nu i) ∧ σ 91 (2 * i) = nI (cl i) ∧ σ 91 (2 * i + 1) = nI (nu i)
def RA (A : Nat → Nat → Nat) (σ : XS) : Prop := TW A ∧ TC A σ ∧ SN A (σ 30) (σ 86) ∧ UD A σ ∧ LN A σ ∧ TX σ ∧ SC A σ
def RR (σ : XS) : Prop := ∃ A, RA A σ
/-- the places that RR reads -/
def lv (c k : Nat) : Bool := if c = 11 then k == 3 else if c = 75 then (k == 6 || k == 7) else if c = 85 then (k == 2 || k == 6 || k == 8 || k == 9 || k == 11) else
  !(c == 13 || (15 ≤ c && c ≤ 28) || c == 46 || c == 47 || (49 ≤ c && c ≤ 55) || (57 ≤ c && c ≤ 65) || (69 ≤ c && c ≤ 74) || (78 ≤ c && c ≤ 84) || (93 ≤ c && c ≤ 97))
/-- all that RR reads is as it was -/
def Kp (σ σ' : XS) : Prop := ∀ c k, lv c k = true → σ' c k = σ c k
theorem Kp.rf {σ : XS} : Kp σ σ := fun _ _ _ => rfl
theorem Kp.tr {σ σ1 σ2 : XS} (h : Kp σ σ1) (h2 : Kp σ1 σ2) : Kp σ σ2 := fun c k q => (h2 c k q).trans (h c k q)
theorem Kp.up {σ : XS} {c k : Nat} {v : Int32} (h : lv c k = false) : Kp σ (xUp σ c k v) := by
  intro a b q
  unfold xUp xUf
  by_cases e : a = c
  · rw [if_pos e]
    unfold upd
    by_cases e2 : b = k
    · subst e e2; rw [h] at q; cases q
    · rw [if_neg e2, e]
  · rw [if_neg e]
theorem Kp.uf {σ : XS} {c : Nat} {f : Nat → Int32} (h : ∀ k, lv c k = false) : Kp σ (xUf σ c f) := by
  intro a b q
  unfold xUf
  by_cases e : a = c
  · subst e; rw [h b] at q; cases q
  · rw [if_neg e]
theorem SN.eq {A : Nat → Nat → Nat} {f f' g g' : Nat → Int32} (h : SN A f g) (hf : ∀ k, f' k = f k) (hg : ∀ k, g' k = g k) : SN A f' g' := by
  have e1 : f' = f := funext hf
  have e2 : g' = g := funext hg
  rw [e1, e2]; exact h
theorem RA.kp {A : Nat → Nat → Nat} {σ σ' : XS} (h : RA A σ) (k : Kp σ σ') : RA A σ' := by
  obtain ⟨h1, ⟨a1, a2, a3, a4, a5, a6, a7, a8, a9⟩, h3, ⟨⟨u, nx, b1, b2, b3, b4, b5, b6⟩, b7⟩, ⟨n, l, c1, c2, c3, c4⟩, ⟨tn, t, d1, d2, d3, d4⟩, hz, s, m, cl, nu, e1, e2, e3, e4, e5, e6, e7⟩ := h
  refine ⟨h1, ⟨(k _ _ rfl).trans a1, (k _ _ rfl).trans a2, (k _ _ rfl).trans a3, (k _ _ rfl).trans a4, fun w hw => ?_, fun p hp => (k _ _ rfl).trans (a6 p hp), fun a ha => ?_, fun c hc => (k _ _ rfl).trans (a8 c hc), fun r hr => (k _ _ rfl).trans (a9 r hr)⟩, h3.eq (fun j => k 30 j rfl) (fun j => k 86 j rfl), ⟨⟨u, nx, b1, b2, (k _ _ rfl).trans b3, (k _ _ rfl).trans b4, (k _ _ rfl).trans b5, fun i hi => ?_⟩, fun j hj => ?_⟩, ⟨n, l, c1, (k _ _ rfl).trans c2, (k _ _ rfl).trans c3, fun i hi => ?_⟩, ⟨tn, t, d1, (k _ _ rfl).trans d2, (k _ _ rfl).trans d3, fun i hi => ?_⟩, ⟨(k _ _ rfl).trans hz.1, (k _ _ rfl).trans hz.2⟩, s, m, cl, nu, e1, e2, (k _ _ rfl).trans e3, (k _ _ rfl).trans e4, (k _ _ rfl).trans e5, (k _ _ rfl).trans e6, fun i hi => ?_⟩
  · obtain ⟨q1, q2, q3, q4⟩ := a5 w hw
    exact ⟨(k _ _ rfl).trans q1, (k _ _ rfl).trans q2, (k _ _ rfl).trans q3, (k _ _ rfl).trans q4⟩
  · obtain ⟨q1, q2⟩ := a7 a ha
    exact ⟨(k _ _ rfl).trans q1, (k _ _ rfl).trans q2⟩
  · have hm : (nx + 7 - i) % 8 < 8 := Nat.mod_lt _ (by decide)
    refine (b6 i hi).eq (fun j => k _ j ?_) (fun j => k 87 _ rfl)
    generalize (nx + 7 - i) % 8 = q at hm
    rcases (show q = 0 ∨ q = 1 ∨ q = 2 ∨ q = 3 ∨ q = 4 ∨ q = 5 ∨ q = 6 ∨ q = 7 by omega) with rfl | rfl | rfl | rfl | rfl | rfl | rfl | rfl <;> rfl
  · obtain ⟨b, q1, q2, q3, q4⟩ := b7 j hj
    refine ⟨b, q1, (k _ _ rfl).trans q2, (k _ _ rfl).trans q3, fun hb => (q4 hb).eq (fun i => k _ i ?_) (fun i => k 88 _ rfl)⟩
    rcases (show j = 0 ∨ j = 1 by omega) with rfl | rfl <;> rfl
  · obtain ⟨q1, q2, q3⟩ := c4 i hi
    exact ⟨q1, (k _ _ rfl).trans q2, (k _ _ rfl).trans q3⟩
  · obtain ⟨q1, q2, q3⟩ := d4 i hi
    exact ⟨q1, (k _ _ rfl).trans q2, (k _ _ rfl).trans q3⟩
  · obtain ⟨q1, q2, q3, q4, q5, q6⟩ := e7 i hi
    exact ⟨q1, q2, (k _ _ rfl).trans q3, (k _ _ rfl).trans q4, (k _ _ rfl).trans q5, (k _ _ rfl).trans q6⟩
/-- a call that answers alike on both sides and keeps what RR reads -/
theorem sim_kp {σ : XS} {f : XS → Option XO} {g : XS → Option XO} {r : Int32} {σ1 σ2 : XS} (hR : RR σ) (hf : f σ = some (r, σ1)) (hg : g σ1 = some (r, σ2)) (k1 : Kp σ σ1) (k2 : Kp σ1 σ2) : ∃ (r : Int32) (σ1 σ2 : XS), f σ = some (r, σ1) ∧ g σ1 = some (r, σ2) ∧ RR σ2 := by
  obtain ⟨A, h⟩ := hR
  exact ⟨r, σ1, σ2, hf, hg, A, (h.kp k1).kp k2⟩
