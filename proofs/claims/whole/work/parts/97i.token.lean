/-! TOKENS OF THE TEXT: letters, sorts; the class goes on, the reference looks -/
/-- a letter's sort: small 0, digit 1, other 2 -/
def tkS (x : Nat) : Nat := if 97 ≤ x ∧ x ≤ 122 then 0 else if 48 ≤ x ∧ x ≤ 57 then 1 else 2
def tkN : List (List Nat) := [[112, 108, 97, 105, 110], [101, 108, 105, 100, 101, 100], [102, 97, 108, 115, 101], [102, 114, 101, 101], [115, 116, 114, 105, 99, 116], [115, 108, 117, 114, 114, 105, 110, 103], [100, 101, 97, 102], [110, 111, 110, 101], [114, 105, 115, 105, 110, 103], [102, 97, 108, 108, 105, 110, 103], [99, 117, 115, 116, 111, 109, 115], [112, 111, 114, 116], [119, 97, 114, 101], [117, 115, 101, 115]]
def tkL (v : Nat) : Nat := (tkN.getD v []).length
def tkC (v i : Nat) : Nat := (tkN.getD v []).getD i 0
/-- the reference's numbers of the names, its verbs -/
def tkH (v : Nat) : Nat := [17171758, 180654244, 6337125, 215205, 659104884, 666444047815, 136230, 474565, 614049223, 6488991175, 3946462643, 540244, 755269, 707763].getD v 0
def tkV (v : Nat) : Nat := [0, 1, 2, 3, 6, 7, 8, 9, 10, 11, 13, 4, 5, 12].getD v 0
/-- a row of letters as a number, base 32; a row of digits -/
def hsS (t : Nat → Nat) : Nat → Nat
  | 0 => 0
  | i + 1 => 32 * hsS t i + (t i - 96)
def nvS (t : Nat → Nat) : Nat → Nat
  | 0 => 0
  | i + 1 => 10 * nvS t i + (t i - 48)
/-- the name v stands at S .. E -/
def tkM (t : Nat → Nat) (S E v : Nat) : Prop := E - S = tkL v ∧ ∀ i, i < tkL v → t (S + i) = tkC v i
/-- the token that is met from p on: from S to E, of kind k (0 the end, 1 an odd one, 2 a number x, 3 a ;, 4 + v a verb) -/
def Tk (n : Nat) (t : Nat → Nat) (p S E k x : Nat) : Prop := p ≤ S ∧ S ≤ E ∧ E ≤ n ∧ (∀ i, p ≤ i → i < S → t i = 32) ∧ (S < n → t S ≠ 32) ∧
  ((S = n ∧ E = n ∧ k = 0) ∨
   (S < E ∧ (∀ i, S ≤ i → i < E → tkS (t i) = 0) ∧ (E < n → tkS (t E) ≠ 0) ∧ ((∃ v, v < 14 ∧ tkM t S E v ∧ k = 4 + v) ∨ ((∀ v, v < 14 → ¬ tkM t S E v) ∧ k = 1))) ∨
   (S < E ∧ (∀ i, S ≤ i → i < E → tkS (t i) = 1) ∧ (E < n → tkS (t E) ≠ 1) ∧ ((E - S ≤ 2 ∧ k = 2 ∧ x = nvS (fun i => t (S + i)) (E - S)) ∨ (2 < E - S ∧ k = 1))) ∨
   (E = S + 1 ∧ tkS (t S) = 2 ∧ ((t S = 59 ∧ k = 3) ∨ (t S ≠ 59 ∧ k = 1))))
def TxC (n : Nat) (t : Nat → Nat) (σ : XS) : Prop := n ≤ 160 ∧ σ 11 3 = nI n ∧ ∀ i, i < n → t i < 256 ∧ σ 12 i = nI (t i)
def TxM (n : Nat) (t : Nat → Nat) (σ : XS) : Prop := n ≤ 160 ∧ σ 85 11 = nI n ∧ ∀ i, i < n → t i < 256 ∧ σ 92 i = nI (t i)
theorem TxC.eq {n : Nat} {t : Nat → Nat} {σ τ : XS} (h : TxC n t σ) (e : ∀ k, τ 12 k = σ 12 k) (e1 : τ 11 3 = σ 11 3) : TxC n t τ := ⟨h.1, e1.trans h.2.1, fun i hi => ⟨(h.2.2 i hi).1, (e i).trans (h.2.2 i hi).2⟩⟩
theorem TxM.eq {n : Nat} {t : Nat → Nat} {σ τ : XS} (h : TxM n t σ) (e : ∀ k, τ 92 k = σ 92 k) (e1 : τ 85 11 = σ 85 11) : TxM n t τ := ⟨h.1, e1.trans h.2.1, fun i hi => ⟨(h.2.2 i hi).1, (e i).trans (h.2.2 i hi).2⟩⟩
theorem scan_ex (P : Nat → Bool) {n : Nat} : ∀ d p, p + d = n → ∃ S, p ≤ S ∧ S ≤ n ∧ (∀ i, p ≤ i → i < S → P i = true) ∧ (S < n → P S = false) := by
  intro d
  induction d with
  | zero => intro p hp; exact ⟨p, Nat.le_refl _, by omega, fun i h1 h2 => by omega, fun q => by omega⟩
  | succ d ih =>
    intro p hp
    by_cases q : P p = true
    · obtain ⟨S, h1, h2, h3, h4⟩ := ih (p + 1) (by omega)
      refine ⟨S, by omega, h2, fun i g1 g2 => ?_, h4⟩
      by_cases z : i = p
      · subst z; exact q
      · exact h3 i (by omega) g2
    · exact ⟨p, Nat.le_refl _, by omega, fun i h1 h2 => by omega, fun _ => by simpa using q⟩
theorem tkS_cases (x : Nat) : (tkS x = 0 ∧ 97 ≤ x ∧ x ≤ 122) ∨ (tkS x = 1 ∧ 48 ≤ x ∧ x ≤ 57) ∨ (tkS x = 2 ∧ ¬ (97 ≤ x ∧ x ≤ 122) ∧ ¬ (48 ≤ x ∧ x ≤ 57)) := by
  unfold tkS
  by_cases a : 97 ≤ x ∧ x ≤ 122
  · rw [if_pos a]; exact Or.inl ⟨rfl, a⟩
  · rw [if_neg a]
    by_cases b : 48 ≤ x ∧ x ≤ 57
    · rw [if_pos b]; exact Or.inr (Or.inl ⟨rfl, b⟩)
    · rw [if_neg b]; exact Or.inr (Or.inr ⟨rfl, a, b⟩)
theorem tkS_lt (x : Nat) : tkS x < 3 := by
  rcases tkS_cases x with ⟨q, -⟩ | ⟨q, -⟩ | ⟨q, -⟩ <;> omega
theorem tk_ex {n : Nat} {t : Nat → Nat} {p : Nat} (hp : p ≤ n) : ∃ S E k x, Tk n t p S E k x := by
  obtain ⟨S, h1, h2, h3, h4⟩ := scan_ex (fun i => decide (t i = 32)) (n := n) (n - p) p (by omega)
  have g3 : ∀ i, p ≤ i → i < S → t i = 32 := fun i a b => of_decide_eq_true (h3 i a b)
  have g4 : S < n → t S ≠ 32 := fun q => of_decide_eq_false (h4 q)
  by_cases q : S = n
  · exact ⟨S, S, 0, 0, h1, Nat.le_refl _, h2, g3, g4, Or.inl ⟨q, q, rfl⟩⟩
  · rcases tkS_cases (t S) with ⟨e, -, -⟩ | ⟨e, -, -⟩ | ⟨e, -, -⟩
    · obtain ⟨E, k1, k2, k3, k4⟩ := scan_ex (fun i => decide (tkS (t i) = 0)) (n := n) (n - (S + 1)) (S + 1) (by omega)
      have m3 : ∀ i, S ≤ i → i < E → tkS (t i) = 0 := fun i a b => by
        by_cases z : i = S
        · subst z; exact e
        · exact of_decide_eq_true (k3 i (by omega) b)
      have m4 : E < n → tkS (t E) ≠ 0 := fun q => of_decide_eq_false (k4 q)
      by_cases w : ∃ v, v < 14 ∧ tkM t S E v
      · obtain ⟨v, w1, w2⟩ := w
        exact ⟨S, E, 4 + v, 0, h1, by omega, k2, g3, g4, Or.inr (Or.inl ⟨by omega, m3, m4, Or.inl ⟨v, w1, w2, rfl⟩⟩)⟩
      · exact ⟨S, E, 1, 0, h1, by omega, k2, g3, g4, Or.inr (Or.inl ⟨by omega, m3, m4, Or.inr ⟨fun v a b => w ⟨v, a, b⟩, rfl⟩⟩)⟩
    · obtain ⟨E, k1, k2, k3, k4⟩ := scan_ex (fun i => decide (tkS (t i) = 1)) (n := n) (n - (S + 1)) (S + 1) (by omega)
      have m3 : ∀ i, S ≤ i → i < E → tkS (t i) = 1 := fun i a b => by
        by_cases z : i = S
        · subst z; exact e
        · exact of_decide_eq_true (k3 i (by omega) b)
      have m4 : E < n → tkS (t E) ≠ 1 := fun q => of_decide_eq_false (k4 q)
      by_cases w : E - S ≤ 2
      · exact ⟨S, E, 2, _, h1, by omega, k2, g3, g4, Or.inr (Or.inr (Or.inl ⟨by omega, m3, m4, Or.inl ⟨w, rfl, rfl⟩⟩))⟩
      · exact ⟨S, E, 1, 0, h1, by omega, k2, g3, g4, Or.inr (Or.inr (Or.inl ⟨by omega, m3, m4, Or.inr ⟨by omega, rfl⟩⟩))⟩
    · by_cases w : t S = 59
      · exact ⟨S, S + 1, 3, 0, h1, by omega, by omega, g3, g4, Or.inr (Or.inr (Or.inr ⟨rfl, e, Or.inl ⟨w, rfl⟩⟩))⟩
      · exact ⟨S, S + 1, 1, 0, h1, by omega, by omega, g3, g4, Or.inr (Or.inr (Or.inr ⟨rfl, e, Or.inr ⟨w, rfl⟩⟩))⟩
section
variable {N n : Nat} {t : Nat → Nat} {σ : XS} {S E p k x : Nat}
theorem letter_c (h : TxC n t σ) {i : Nat} (hi : i < n) : fX7_letterAt N σ (nI i) = some (nI (t i), σ) := by
  obtain ⟨h1, h2, h3⟩ := h
  unfold fX7_letterAt
  rw [if_neg (nI_pos (by omega)), h2, if_neg (nI_ge hi (by omega)), show (160 : Int32) = nI 160 from rfl, if_neg (nI_ge (by omega) (by omega)), xin_t (by omega) (by decide), gd_t, nI_clamp (by omega), (h3 i hi).2]
theorem letter_e (h : TxC n t σ) : fX7_letterAt N σ (nI n) = some (-1, σ) := by
  obtain ⟨h1, h2, h3⟩ := h
  unfold fX7_letterAt
  rw [if_neg (nI_pos (by omega)), h2, if_pos (nI_le (Nat.le_refl _) (by omega))]
theorem sort_c (h : TxC n t σ) {i : Nat} (hi : i < n) : fX7_sortAt N σ (nI i) = some (nI (tkS (t i)), σ) := by
  have hb := (h.2.2 i hi).1
  unfold fX7_sortAt
  rw [letter_c h hi, xB_s, show (97 : Int32) = nI 97 from rfl, show (48 : Int32) = nI 48 from rfl, show (57 : Int32) = nI 57 from rfl, show (122 : Int32) = nI 122 from rfl]
  generalize t i = y at hb
  simp (disch := omega) only [nI_ltI]
  unfold tkS
  repeat' split
  all_goals first | rfl | (exfalso; omega)
theorem sort_e (h : TxC n t σ) : fX7_sortAt N σ (nI n) = some (2, σ) := by
  unfold fX7_sortAt
  rw [letter_e h, xB_s]
  rfl
theorem skip_c {kk : XS → Option XO} {S : Nat} (hS : S ≤ n) (hs : S < n → t S ≠ 32) : ∀ (d p m : Nat) (σ : XS), p + d = S → d < m → TxC n t σ → σ 11 5 = nI p → (∀ i, p ≤ i → i < S → t i = 32) → fX7_goOn_L8 N kk m σ = kk (xUp σ 11 5 (nI S)) := by
  intro d
  induction d with
  | zero =>
    intro p m σ hp hm h h5 hb
    obtain ⟨m, rfl⟩ : ∃ q, m = q + 1 := ⟨m - 1, by omega⟩
    have e : p = S := by omega
    subst e
    have e2 : xUp σ 11 5 (nI p) = σ := by rw [← h5]; exact up_id
    rw [fX7_goOn_L8, h5, h.2.1, e2]
    have hn := h.1
    by_cases q : p = n
    · subst q
      rw [if_pos (nI_le (Nat.le_refl _) (by omega))]
    · have hb2 := (h.2.2 p (by omega)).1
      rw [if_neg (nI_ge (by omega) (by omega)), letter_c h (by omega), xB_s, if_neg]
      rw [show (32 : Int32) = nI 32 from rfl, nI_eq (by omega) (by omega)]
      exact hs (by omega)
  | succ d ih =>
    intro p m σ hp hm h h5 hb
    obtain ⟨m, rfl⟩ : ∃ q, m = q + 1 := ⟨m - 1, by omega⟩
    have hn := h.1
    rw [fX7_goOn_L8, h5, h.2.1, if_neg (nI_ge (by omega) (by omega)), letter_c h (by omega), xB_s, hb p (by omega) (by omega), if_pos (by rfl), xLet_e, h5, nI_1]
    rw [ih (p + 1) m _ (by omega) (by omega) (h.eq (fun k => up_c (by omega)) (up_c (by omega))) up_s (fun i a b => hb i (by omega) b), up_up]
theorem run_c {kk : XS → Option XO} {E s : Nat} (hE : E ≤ n) (hs : s < 3) (he : E < n → tkS (t E) ≠ s) : ∀ (d p m : Nat) (σ : XS), p + d = E → d < m → TxC n t σ → σ 11 6 = nI p → (∀ i, p ≤ i → i < E → tkS (t i) = s) → fX7_goOn_L90 N (nI s) kk m σ = kk (xUp σ 11 6 (nI E)) := by
  intro d
  induction d with
  | zero =>
    intro p m σ hp hm h h6 hb
    obtain ⟨m, rfl⟩ : ∃ q, m = q + 1 := ⟨m - 1, by omega⟩
    have e : p = E := by omega
    subst e
    have e2 : xUp σ 11 6 (nI p) = σ := by rw [← h6]; exact up_id
    rw [fX7_goOn_L90, h6, h.2.1, e2]
    have hn := h.1
    by_cases q : p = n
    · subst q
      rw [if_pos (nI_le (Nat.le_refl _) (by omega))]
    · have hb2 := tkS_lt (t p)
      rw [if_neg (nI_ge (by omega) (by omega)), sort_c h (by omega), xB_s, if_neg]
      rw [nI_eq (by omega) (by omega)]
      exact he (by omega)
  | succ d ih =>
    intro p m σ hp hm h h6 hb
    obtain ⟨m, rfl⟩ : ∃ q, m = q + 1 := ⟨m - 1, by omega⟩
    have hn := h.1
    rw [fX7_goOn_L90, h6, h.2.1, if_neg (nI_ge (by omega) (by omega)), sort_c h (by omega), xB_s, hb p (by omega) (by omega), if_pos rfl, xLet_e, h6, nI_1]
    rw [ih (p + 1) m _ (by omega) (by omega) (h.eq (fun k => up_c (by omega)) (up_c (by omega))) up_s (fun i a b => hb i (by omega) b), up_up]
/-- the class goes on to the next token -/
theorem goOn_c (hN : 200 ≤ N) (h : TxC n t σ) (hp : σ 11 6 = nI p) (hT : Tk n t p S E k x) : fX7_goOn N σ = some (0, xUp (xUp σ 11 5 (nI S)) 11 6 (nI E)) := by
  obtain ⟨a1, a2, a3, a4, a5, a6⟩ := hT
  have hn := h.1
  have h1 : TxC n t (xUp σ 11 5 (nI p)) := h.eq (fun k => up_c (by omega)) (up_c (by omega))
  unfold fX7_goOn
  rw [xLet_e, hp, skip_c (by omega) a5 (S - p) p N _ (by omega) (by omega) h1 up_s a4, up_up]
  unfold fX7_goOn_J45
  rw [xLet_e, up_s, up_c (by omega), up_s, up_c (by omega), up_c (by omega), h.2.1]
  rcases a6 with ⟨b1, b2, b3⟩ | ⟨b1, b2, b3, -⟩ | ⟨b1, b2, b3, -⟩ | ⟨b1, b2, -⟩
  · subst b1
    rw [if_neg (nI_nlt (Nat.le_refl _) (by omega)), b2]
  · rw [if_pos (nI_lt (by omega) (by omega)), xLet_e, up_s, nI_1, up_up, up_c (by omega), up_s]
    have h2 : TxC n t (xUp (xUp σ 11 5 (nI S)) 11 6 (nI (S + 1))) := h.eq (fun k => by rw [up_c (by omega), up_c (by omega)]) (by rw [up_c (by omega), up_c (by omega)])
    rw [sort_c h2 (by omega), xB_s, b2 S (Nat.le_refl _) b1, if_neg (by decide), run_c a3 (by decide) b3 (E - (S + 1)) (S + 1) N _ (by omega) (by omega) h2 up_s (fun i c d => b2 i (by omega) d), up_up]
  · rw [if_pos (nI_lt (by omega) (by omega)), xLet_e, up_s, nI_1, up_up, up_c (by omega), up_s]
    have h2 : TxC n t (xUp (xUp σ 11 5 (nI S)) 11 6 (nI (S + 1))) := h.eq (fun k => by rw [up_c (by omega), up_c (by omega)]) (by rw [up_c (by omega), up_c (by omega)])
    rw [sort_c h2 (by omega), xB_s, b2 S (Nat.le_refl _) b1, if_neg (by decide), run_c a3 (by decide) b3 (E - (S + 1)) (S + 1) N _ (by omega) (by omega) h2 up_s (fun i c d => b2 i (by omega) d), up_up]
  · rw [if_pos (nI_lt (by omega) (by omega)), xLet_e, up_s, nI_1, up_up, up_c (by omega), up_s]
    have h2 : TxC n t (xUp (xUp σ 11 5 (nI S)) 11 6 (nI (S + 1))) := h.eq (fun k => by rw [up_c (by omega), up_c (by omega)]) (by rw [up_c (by omega), up_c (by omega)])
    rw [sort_c h2 (by omega), xB_s, b2, if_pos (by rfl), b1]
end
