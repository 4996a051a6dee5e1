/-! LADEN -/
theorem shl6 : ∀ a, a < 7 → (1 : Int32) <<< (nI a &&& 31) = nI (2 ^ a) := by decide +kernel
theorem if6 : ∀ a, a < 7 → (if 6 < nI a then 6 else nI a) = nI a := by decide +kernel
def hbt (v a : Nat) : Bool := decide (((nI v >>> (nI a &&& 31)) &&& 1) = 1)
theorem bitv : ∀ v, v < 64 → ∀ a, a < 6 → (((nI v >>> (nI a &&& 31)) &&& 1) = 1 ∨ ((nI v >>> (nI a &&& 31)) &&& 1) = 0) := by decide +kernel
/-- what the wares of set v weigh -/
def wtS (A : Nat → Nat → Nat) (v : Nat) : Nat → Nat → Nat → Nat
  | 0, _, acc => acc
  | d + 1, a, acc => wtS A v d (a + 1) (if hbt v a = true then acc + A 6 a else acc)
def wt (A : Nat → Nat → Nat) (v : Nat) : Nat := wtS A v (A 0 1) 0 0
theorem wtS_le {A : Nat → Nat → Nat} (hW : TW A) {v : Nat} : ∀ d a acc, a + d = A 0 1 → wtS A v d a acc ≤ acc + 12 * d := by
  intro d
  induction d with
  | zero => intro a acc _; exact Nat.le_refl _
  | succ d ih =>
    intro a acc h
    have := (hW.2.2.2.2.2.2.1 a (by omega)).2.1
    have q := ih (a + 1) (if hbt v a = true then acc + A 6 a else acc) (by omega)
    show wtS A v d (a + 1) _ ≤ _
    by_cases z : hbt v a = true
    · rw [if_pos z] at q ⊢; omega
    · rw [if_neg z] at q ⊢; omega
abbrev I3 := Int32 × Int32 × Int32
def stp (A : Nat → Nat → Nat) (cap x y : Nat) (s : I3) : I3 :=
  if wt A x ≤ cap ∧ wt A y ≤ cap ∧ (nI x &&& nI y) = 0 ∧ ¬ (nI (wt A x + wt A y) ≤ s.1) then (nI (wt A x + wt A y), nI x, nI y) else s
def in8 (A : Nat → Nat → Nat) (cap x : Nat) : Nat → Nat → I3 → I3
  | 0, _, s => s
  | d + 1, y, s => in8 A cap x d (y + 1) (stp A cap x y s)
def in7 (A : Nat → Nat → Nat) (cap M : Nat) : Nat → Nat → I3 → I3
  | 0, _, s => s
  | d + 1, x, s => in7 A cap M d (x + 1) (in8 A cap x M 0 s)
theorem in8_no {A : Nat → Nat → Nat} {cap x : Nat} (h : ¬ wt A x ≤ cap) : ∀ d y s, in8 A cap x d y s = s := by
  intro d
  induction d with
  | zero => intro y s; rfl
  | succ d ih =>
    intro y s
    show in8 A cap x d (y + 1) (stp A cap x y s) = s
    rw [ih]
    unfold stp
    rw [if_neg (fun q => h q.1)]
section
variable {N : Nat} {A : Nat → Nat → Nat} {σ τ : XS}
theorem wt_m (hN : 10 ≤ N) (hM : TM A (σ 86)) (hW : TW A) {v : Nat} (hv : v < 64) : fX10_weightOf N σ (nI v) = some (nI (wt A v), σ) := by
  have a1 := hM.2.1
  have a3 := hW.2.1
  have key : ∀ (d a m acc : Nat), a + d = A 0 1 → d < m → fX10_weightOf_L4 N (nI v) (fun x4 m5 => some (x4, m5)) m (nI acc) (nI a) σ = some (nI (wtS A v d a acc), σ) := by
    intro d
    induction d with
    | zero =>
      intro a m acc ha hm
      obtain ⟨m, rfl⟩ : ∃ q, m = q + 1 := ⟨m - 1, by omega⟩
      rw [fX10_weightOf_L4, xin198, gd_t, c1, a1, if_pos (nI_le (by omega) (by omega))]; rfl
    | succ d ih =>
      intro a m acc ha hm
      obtain ⟨m, rfl⟩ : ∃ q, m = q + 1 := ⟨m - 1, by omega⟩
      have e6 := (hM.2.2.2.2.2.2.1 a (by omega)).1
      rw [fX10_weightOf_L4, xin198, gd_t, c1, a1, if_neg (nI_ge (by omega) (by omega)), z46, xin_t (by omega) (by decide), gd_t, nI_clamp (by omega), e6]
      have st : ∀ b : Bool, hbt v a = b → wtS A v (d + 1) a acc = wtS A v d (a + 1) (if b = true then acc + A 6 a else acc) := by
        intro b hb
        rw [← hb]; rfl
      rcases bitv v hv a (by omega) with q | q
      · rw [q, xLetI_e, Int32.one_mul, nI_add, nI_1, ih (a + 1) m _ (by omega) (by omega), st true (decide_eq_true q)]; rfl
      · rw [q, xLetI_e, Int32.zero_mul, Int32.add_zero, nI_1, ih (a + 1) m _ (by omega) (by omega), st false (decide_eq_false (by rw [q]; decide))]; rfl
  exact key (A 0 1) 0 N 0 (by omega) (by omega)
theorem wt_c (hN : 10 ≤ N) (hC : TC A σ) (hW : TW A) {v : Nat} (hv : v < 64) {v1 : Int32} {k : Int32 → XS → Option XO} : fX6_weigh_L21 N v1 (nI v) k N 0 0 σ = k (nI (wt A v)) σ := by
  have a1 := hC.2.1
  have a3 := hW.2.1
  have key : ∀ (d a m acc : Nat), a + d = A 0 1 → d < m → fX6_weigh_L21 N v1 (nI v) k m (nI acc) (nI a) σ = k (nI (wtS A v d a acc)) σ := by
    intro d
    induction d with
    | zero =>
      intro a m acc ha hm
      obtain ⟨m, rfl⟩ : ∃ q, m = q + 1 := ⟨m - 1, by omega⟩
      rw [fX6_weigh_L21, a1, if_pos (nI_le (by omega) (by omega))]; rfl
    | succ d ih =>
      intro a m acc ha hm
      obtain ⟨m, rfl⟩ : ∃ q, m = q + 1 := ⟨m - 1, by omega⟩
      have e6 := (hC.2.2.2.2.2.2.1 a (by omega)).1
      rw [fX6_weigh_L21, a1, if_neg (nI_ge (by omega) (by omega))]
      unfold fX9_hasBit
      have st : ∀ b : Bool, hbt v a = b → wtS A v (d + 1) a acc = wtS A v d (a + 1) (if b = true then acc + A 6 a else acc) := by
        intro b hb
        rw [← hb]; rfl
      rcases bitv v hv a (by omega) with q | q
      · rw [q, if_pos rfl, xB_s, if_neg (by decide), at_n (len := 6) rfl (by omega) (by decide), xB_s, e6, nI_add, nI_1, ih (a + 1) m _ (by omega) (by omega), st true (decide_eq_true q)]; rfl
      · rw [q, if_neg (by decide), xB_s, if_pos rfl, nI_1, ih (a + 1) m _ (by omega) (by omega), st false (decide_eq_false (by rw [q]; decide))]; rfl
  exact key (A 0 1) 0 N 0 (by omega) (by omega)
theorem weigh_c (hN : 100 ≤ N) (hC : TC A σ) (hW : TW A) {M : Nat} (hM : M ≤ 64) : ∃ τ, fX6_weigh N σ (nI M) = some (0, τ) ∧ (∀ v, v < M → τ 74 v = nI (wt A v)) ∧ ∀ a k, a ≠ 74 → τ a k = σ a k := by
  have key : ∀ (d v m : Nat) (ρ : XS), v + d = M → d < m → (∀ a k, a ≠ 74 → ρ a k = σ a k) → (∀ x, x < v → ρ 74 x = nI (wt A x)) → ∃ τ, fX6_weigh_L2 N (nI M) (fun m12 => some (0, m12)) m (nI v) ρ = some (0, τ) ∧ (∀ v, v < M → τ 74 v = nI (wt A v)) ∧ ∀ a k, a ≠ 74 → τ a k = σ a k := by
    intro d
    induction d with
    | zero =>
      intro v m ρ hv hm f1 f2
      obtain ⟨m, rfl⟩ : ∃ q, m = q + 1 := ⟨m - 1, by omega⟩
      rw [fX6_weigh_L2, if_pos (nI_le (by omega) (by omega))]
      exact ⟨ρ, rfl, fun x hx => f2 x (by omega), f1⟩
    | succ d ih =>
      intro v m ρ hv hm f1 f2
      obtain ⟨m, rfl⟩ : ∃ q, m = q + 1 := ⟨m - 1, by omega⟩
      rw [fX6_weigh_L2, if_neg (nI_ge (by omega) (by omega)), show (64 : Int32) = nI 64 from rfl, if_neg (nI_ge (by omega) (by omega)), wt_c (by omega) (hC.eq (fun a k g1 g2 => f1 a k (by omega))) hW (by omega), xLet_e, xin_t (by omega) (by decide), gd_t, nI_clamp (by omega), nI_1]
      refine ih (v + 1) m _ (by omega) (by omega) (fun a k ha => by rw [up_c (by omega)]; exact f1 a k ha) (fun x hx => ?_)
      by_cases e : x = v
      · subst e; rw [up_s]
      · rw [up_c (by omega)]; exact f2 x (by omega)
  exact key M 0 N σ (by omega) (by omega) (fun _ _ _ => rfl) (fun x hx => by omega)
def st3 (τ : XS) : I3 := (τ 73 2, τ 73 3, τ 73 4)
theorem load_c (hN : 100 ≤ N) (hW : TW A) {M cap x : Nat} (hM : M ≤ 64) (hcap : cap < 1000) (hx : x < M) (h74 : ∀ v, v < M → σ 74 v = nI (wt A v)) (hxc : wt A x ≤ cap) {k : XS → Option XO} : ∃ τ, fX6_load_L50 N (nI cap) (nI M) (nI x) k N 0 σ = k τ ∧ st3 τ = in8 A cap x M 0 (st3 σ) ∧ ∀ a k, a ≠ 73 → τ a k = σ a k := by
  have wl : ∀ v, wt A v ≤ 72 := fun v => by
    have := wtS_le hW (v := v) (A 0 1) 0 0 (by omega)
    have := hW.2.1
    unfold wt; omega
  have key : ∀ (d y m : Nat) (ρ : XS), y + d = M → d < m → (∀ a k, a ≠ 73 → ρ a k = σ a k) → ∃ τ, fX6_load_L50 N (nI cap) (nI M) (nI x) k m (nI y) ρ = k τ ∧ st3 τ = in8 A cap x d y (st3 ρ) ∧ ∀ a k, a ≠ 73 → τ a k = σ a k := by
    intro d
    induction d with
    | zero =>
      intro y m ρ hy hm f1
      obtain ⟨m, rfl⟩ : ∃ q, m = q + 1 := ⟨m - 1, by omega⟩
      rw [fX6_load_L50, if_pos (nI_le (by omega) (by omega))]
      exact ⟨ρ, rfl, rfl, f1⟩
    | succ d ih =>
      intro y m ρ hy hm f1
      obtain ⟨m, rfl⟩ : ∃ q, m = q + 1 := ⟨m - 1, by omega⟩
      have e7 : ∀ v, v < M → ρ 74 v = nI (wt A v) := fun v hv => (f1 _ _ (by omega)).trans (h74 v hv)
      have atv : ∀ v, v < M → fX9_at N ρ 74 (nI v) = some (nI (wt A v), ρ) := fun v hv => by rw [at_n (len := 64) rfl (by omega) (by decide), e7 v hv]
      have no : stp A cap x y (st3 ρ) = st3 ρ → ∃ τ, fX6_load_L50 N (nI cap) (nI M) (nI x) k m (nI (y + 1)) ρ = k τ ∧ st3 τ = in8 A cap x (d + 1) y (st3 ρ) ∧ ∀ a k, a ≠ 73 → τ a k = σ a k := by
        intro h
        obtain ⟨τ, t1, t2, t3⟩ := ih (y + 1) m ρ (by omega) (by omega) f1
        refine ⟨τ, t1, ?_, t3⟩
        show st3 τ = in8 A cap x d (y + 1) (stp A cap x y (st3 ρ))
        rw [h, t2]
      have wx := wl x
      have wy := wl y
      rw [fX6_load_L50, if_neg (nI_ge (by omega) (by omega)), atv x hx, xB_s, atv y (by omega), xB_s, nI_add, nI_1]
      by_cases q : (nI x &&& nI y) = 0
      · rw [if_pos q, atv y (by omega), xB_s]
        by_cases z : wt A y ≤ cap
        · rw [if_neg (nI_nlt (by omega) (by omega))]
          by_cases p : nI (wt A x + wt A y) ≤ ρ 73 2
          · rw [if_pos p]
            exact no (by unfold stp; rw [if_neg (fun g => g.2.2.2 p)])
          · rw [if_neg p, xLet_e, xLet_e, xLet_e]
            obtain ⟨τ, t1, t2, t3⟩ := ih (y + 1) m (xUp (xUp (xUp ρ 73 2 (nI (wt A x + wt A y))) 73 3 (nI x)) 73 4 (nI y)) (by omega) (by omega) (fun a k ha => by rw [up_c (by omega), up_c (by omega), up_c (by omega)]; exact f1 a k ha)
            refine ⟨τ, t1, ?_, t3⟩
            show st3 τ = in8 A cap x d (y + 1) (stp A cap x y (st3 ρ))
            rw [t2]
            congr 1
            unfold stp st3
            rw [if_pos ⟨hxc, z, q, p⟩, up_s, up_c (by omega), up_c (by omega), up_s, up_c (by omega), up_s]
        · rw [if_pos (nI_lt (by omega) (by omega))]
          exact no (by unfold stp; rw [if_neg (fun g => z g.2.1)])
      · rw [if_neg q]
        exact no (by unfold stp; rw [if_neg (fun g => q g.2.2.1)])
  exact key M 0 N σ (by omega) (by omega) (fun _ _ _ => rfl)
theorem loads_c (hN : 100 ≤ N) (hW : TW A) {M cap : Nat} (hM : M ≤ 64) (hcap : cap < 1000) (h74 : ∀ v, v < M → σ 74 v = nI (wt A v)) {k : XS → Option XO} : ∃ τ, fX6_load_L27 N (nI cap) (nI M) k N 0 σ = k τ ∧ st3 τ = in7 A cap M M 0 (st3 σ) ∧ ∀ a k, a ≠ 73 → τ a k = σ a k := by
  have wl : ∀ v, wt A v ≤ 72 := fun v => by
    have := wtS_le hW (v := v) (A 0 1) 0 0 (by omega)
    have := hW.2.1
    unfold wt; omega
  have key : ∀ (d x m : Nat) (ρ : XS), x + d = M → d < m → (∀ a k, a ≠ 73 → ρ a k = σ a k) → ∃ τ, fX6_load_L27 N (nI cap) (nI M) k m (nI x) ρ = k τ ∧ st3 τ = in7 A cap M d x (st3 ρ) ∧ ∀ a k, a ≠ 73 → τ a k = σ a k := by
    intro d
    induction d with
    | zero =>
      intro x m ρ hx hm f1
      obtain ⟨m, rfl⟩ : ∃ q, m = q + 1 := ⟨m - 1, by omega⟩
      rw [fX6_load_L27, if_pos (nI_le (by omega) (by omega))]
      exact ⟨ρ, rfl, rfl, f1⟩
    | succ d ih =>
      intro x m ρ hx hm f1
      obtain ⟨m, rfl⟩ : ∃ q, m = q + 1 := ⟨m - 1, by omega⟩
      have wx := wl x
      rw [fX6_load_L27, if_neg (nI_ge (by omega) (by omega)), at_n (len := 64) rfl (by omega) (by decide), xB_s, f1 74 x (by omega), h74 x (by omega), nI_1]
      by_cases z : wt A x ≤ cap
      · rw [if_pos (nI_le z (by omega))]
        obtain ⟨ν, n1, n2, n3⟩ := load_c (N := N) (σ := ρ) (k := fun m25 => fX6_load_L27 N (nI cap) (nI M) k m (nI (x + 1)) m25) hN hW hM hcap (show x < M by omega) (fun v hv => (f1 _ _ (by omega)).trans (h74 v hv)) z
        rw [n1]
        obtain ⟨τ, t1, t2, t3⟩ := ih (x + 1) m ν (by omega) (by omega) (fun a k ha => (n3 a k ha).trans (f1 a k ha))
        exact ⟨τ, t1, by rw [t2, n2]; rfl, t3⟩
      · rw [if_neg (nI_ge (by omega) (by omega))]
        obtain ⟨τ, t1, t2, t3⟩ := ih (x + 1) m ρ (by omega) (by omega) f1
        refine ⟨τ, t1, ?_, t3⟩
        rw [t2]
        show _ = in7 A cap M d (x + 1) (in8 A cap x M 0 (st3 ρ))
        rw [in8_no z]
  exact key M 0 N σ (by omega) (by omega) (fun _ _ _ => rfl)
theorem load_m (hN : 100 ≤ N) (hT : TM A (σ 86)) (hW : TW A) {M cap x : Nat} (hM : M ≤ 64) (hcap : cap < 1000) (hx : x < M) {v2 : Int32} {s : I3} {k : Int32 → Int32 → Int32 → XS → Option XO} : fX10_laden_L58 N (nI cap) v2 (nI M) (nI x) k N s.1 s.2.1 s.2.2 0 σ = k (in8 A cap x M 0 s).1 (in8 A cap x M 0 s).2.1 (in8 A cap x M 0 s).2.2 σ := by
  have wl : ∀ v, wt A v ≤ 72 := fun v => by
    have := wtS_le hW (v := v) (A 0 1) 0 0 (by omega)
    have := hW.2.1
    unfold wt; omega
  have key : ∀ (d y m : Nat) (s : I3), y + d = M → d < m → fX10_laden_L58 N (nI cap) v2 (nI M) (nI x) k m s.1 s.2.1 s.2.2 (nI y) σ = k (in8 A cap x d y s).1 (in8 A cap x d y s).2.1 (in8 A cap x d y s).2.2 σ := by
    intro d
    induction d with
    | zero =>
      intro y m s hy hm
      obtain ⟨m, rfl⟩ : ∃ q, m = q + 1 := ⟨m - 1, by omega⟩
      rw [fX10_laden_L58, if_pos (nI_le (by omega) (by omega))]; rfl
    | succ d ih =>
      intro y m s hy hm
      obtain ⟨m, rfl⟩ : ∃ q, m = q + 1 := ⟨m - 1, by omega⟩
      have wx := wl x
      have wy := wl y
      have no : stp A cap x y s = s → fX10_laden_J97 N (nI cap) v2 s.1 s.2.1 s.2.2 (nI M) (nI x) (nI y) (fX10_laden_L58 N (nI cap) v2 (nI M) (nI x) k m) σ = k (in8 A cap x (d + 1) y s).1 (in8 A cap x (d + 1) y s).2.1 (in8 A cap x (d + 1) y s).2.2 σ := by
        intro h
        unfold fX10_laden_J97 fX10_laden_J98
        rw [wt_m (by omega) hT hW (by omega), xB_s, wt_m (by omega) hT hW (by omega), xB_s, if_pos rfl, nI_1, ih (y + 1) m s (by omega) (by omega)]
        show _ = k (in8 A cap x d (y + 1) (stp A cap x y s)).1 (in8 A cap x d (y + 1) (stp A cap x y s)).2.1 (in8 A cap x d (y + 1) (stp A cap x y s)).2.2 σ
        rw [h]
      rw [fX10_laden_L58, if_neg (nI_ge (by omega) (by omega)), wt_m (by omega) hT hW (show x < 64 by omega), xB_s]
      by_cases q : (nI x &&& nI y) = 0
      · rw [if_pos q]
        by_cases z : wt A x ≤ cap
        · rw [if_neg (nI_nlt z (by omega)), wt_m (by omega) hT hW (show y < 64 by omega), xB_s]
          by_cases w : wt A y ≤ cap
          · rw [if_neg (nI_nlt w (by omega))]
            unfold fX10_laden_J98
            rw [wt_m (by omega) hT hW (by omega), xB_s, wt_m (by omega) hT hW (by omega), xB_s, if_neg (by decide), nI_add, nI_1]
            show _ = k (in8 A cap x d (y + 1) (stp A cap x y s)).1 (in8 A cap x d (y + 1) (stp A cap x y s)).2.1 (in8 A cap x d (y + 1) (stp A cap x y s)).2.2 σ
            by_cases p : nI (wt A x + wt A y) ≤ s.1
            · have e : stp A cap x y s = s := by unfold stp; rw [if_neg (fun g => g.2.2.2 p)]
              rw [if_pos p, e]
              exact ih (y + 1) m s (by omega) (by omega)
            · have e : stp A cap x y s = (nI (wt A x + wt A y), nI x, nI y) := by unfold stp; rw [if_pos ⟨z, w, q, p⟩]
              rw [if_neg p, e]
              exact ih (y + 1) m (nI (wt A x + wt A y), nI x, nI y) (by omega) (by omega)
          · rw [if_pos (nI_lt (by omega) (by omega))]
            exact no (by unfold stp; rw [if_neg (fun g => w g.2.1)])
        · rw [if_pos (nI_lt (by omega) (by omega))]
          exact no (by unfold stp; rw [if_neg (fun g => z g.1)])
      · rw [if_neg q]
        exact no (by unfold stp; rw [if_neg (fun g => q g.2.2.1)])
  exact key M 0 N s (by omega) (by omega)
theorem loads_m (hN : 100 ≤ N) (hT : TM A (σ 86)) (hW : TW A) {M cap : Nat} (hM : M ≤ 64) (hcap : cap < 1000) {v2 : Int32} {s : I3} {k : Int32 → Int32 → Int32 → XS → Option XO} : fX10_laden_L48 N (nI cap) v2 (nI M) k N s.1 s.2.1 s.2.2 0 σ = k (in7 A cap M M 0 s).1 (in7 A cap M M 0 s).2.1 (in7 A cap M M 0 s).2.2 σ := by
  have key : ∀ (d x m : Nat) (s : I3), x + d = M → d < m → fX10_laden_L48 N (nI cap) v2 (nI M) k m s.1 s.2.1 s.2.2 (nI x) σ = k (in7 A cap M d x s).1 (in7 A cap M d x s).2.1 (in7 A cap M d x s).2.2 σ := by
    intro d
    induction d with
    | zero =>
      intro x m s hx hm
      obtain ⟨m, rfl⟩ : ∃ q, m = q + 1 := ⟨m - 1, by omega⟩
      rw [fX10_laden_L48, if_pos (nI_le (by omega) (by omega))]; rfl
    | succ d ih =>
      intro x m s hx hm
      obtain ⟨m, rfl⟩ : ∃ q, m = q + 1 := ⟨m - 1, by omega⟩
      rw [fX10_laden_L48, if_neg (nI_ge (by omega) (by omega)), load_m hN hT hW hM hcap (by omega), nI_1]
      exact ih (x + 1) m (in8 A cap x M 0 s) (by omega) (by omega)
  exact key M 0 N s (by omega) (by omega)
theorem in7_first {cap M : Nat} (hM : 0 < M) {x y x' y' : Int32} : in7 A cap M M 0 (-1, x, y) = in7 A cap M M 0 (-1, x', y') := by
  obtain ⟨m, rfl⟩ : ∃ m, M = m + 1 := ⟨M - 1, by omega⟩
  have w0 : wt A 0 = 0 := by
    have : ∀ d a acc, a + d ≤ A 0 1 → wtS A 0 d a acc = acc := by
      intro d
      induction d with
      | zero => intro a acc _; rfl
      | succ d ih =>
        intro a acc h
        show wtS A 0 d (a + 1) (if hbt 0 a = true then _ else acc) = acc
        have hz : hbt 0 a = false := by
          unfold hbt
          apply decide_eq_false
          have e : (nI 0 >>> (nI a &&& 31)) = 0 := by
            apply Int32.toBitVec_inj.mp
            show BitVec.sshiftRight' _ _ = _
            simp [nI]
          rw [e]; decide
        rw [hz]
        exact ih (a + 1) acc (by omega)
    exact this (A 0 1) 0 0 (by omega)
  have e : ∀ u v : Int32, stp A cap 0 0 (-1, u, v) = (nI 0, nI 0, nI 0) := fun u v => by
    unfold stp
    rw [w0, if_pos ⟨by omega, by omega, rfl, show ¬ (nI (0 + 0) ≤ (-1 : Int32)) from by decide⟩]
  show in7 A cap (m + 1) m 1 (in8 A cap 0 m 1 (stp A cap 0 0 (-1, x, y))) = in7 A cap (m + 1) m 1 (in8 A cap 0 m 1 (stp A cap 0 0 (-1, x', y')))
  rw [e, e]
end
theorem sim_laden {N : Nat} (hN : 1000 ≤ N) : Sim27 N RR := by
  intro σ a b hR
  obtain ⟨A, h⟩ := id hR
  obtain ⟨a1, a2, a3⟩ := h.a
  have bad : fX9_laden N σ a b = some (-3, σ) → fX10_laden N σ a b = some (-3, σ) → ∃ (r : Int32) (σ1 σ2 : XS), fX9_laden N σ a b = some (r, σ1) ∧ fX10_laden N σ1 a b = some (r, σ2) ∧ RR σ2 := fun g1 g2 =>
    sim_mk (f := fun σ => fX9_laden N σ a b) (g := fun σ => fX10_laden N σ a b) (-3) σ σ g1 g2 hR
  have hin : fX10_in N σ a.toInt64 1 72 = some (if (1 : Int32) ≤ a ∧ a ≤ 72 then 1 else 0, σ) := in_spec2 1 72 rfl rfl
  by_cases hr : (1 : Int32) ≤ a ∧ a ≤ 72
  · obtain ⟨cap, hcap, rfl⟩ := nI_of2 (M := 72) (n := 72) (by decide) (fun q => absurd (Int32.lt_of_le_of_lt hr.1 q) (by decide)) hr.2
    have g1 : ¬ nI cap < 1 := Int32.not_lt.mpr hr.1
    have g2 : ¬ 72 < nI cap := Int32.not_lt.mpr hr.2
    rcases or_assoc.mpr (icase b 3 (by decide)) with hb | ⟨j, hj, rfl⟩
    · refine bad ?_ ?_
      · unfold fX9_laden
        rw [if_neg g1, if_neg g2]
        by_cases h0 : b < 0
        · rw [if_pos h0]
        · have h2 : nI 3 ≤ b := by rcases hb with q | q; exact absurd q h0; exact q
          rw [if_neg h0, if_neg (fun q => absurd (Int32.le_trans h2 q) (by decide))]
      · unfold fX10_laden
        rw [hin, xB_s, ite1, if_pos hr, show (2 : Int64) = (nI 3 - 1).toInt64 from rfl, ref_test (by decide), xB_s, ite1, if_neg (out_ex hb (by decide))]
    · have hM : 2 ^ A 0 1 ≤ 64 := by
        have := Nat.pow_le_pow_right (show 0 < 2 by decide) a3
        have e : 2 ^ 6 = 64 := rfl
        omega
      have hM0 : 0 < 2 ^ A 0 1 := Nat.pow_pos (by decide)
      obtain ⟨τ1, t1, t2, t3⟩ := weigh_c (N := N) (σ := σ) (M := 2 ^ A 0 1) (by omega) h.tc h.tw hM
      obtain ⟨τ, s1, s2, s3⟩ := loads_c (N := N) (σ := xUp τ1 73 2 (-1)) (k := fun m26 => some (0, m26)) (cap := cap) (by omega) h.tw hM (by omega) (fun v hv => by rw [up_c (by omega)]; exact t2 v hv)
      have es : st3 (xUp τ1 73 2 (-1)) = (-1, τ1 73 3, τ1 73 4) := by
        unfold st3
        rw [up_s, up_c (by omega), up_c (by omega)]
      rw [es, in7_first (x' := 0) (y' := 0) hM0] at s2
      generalize hS : in7 A cap (2 ^ A 0 1) (2 ^ A 0 1) 0 (-1, 0, 0) = S at s2
      have fr : ∀ a k, a ≠ 73 → a ≠ 74 → τ a k = σ a k := fun a k g1 g2 => by rw [s3 a k g1, up_c (by omega), t3 a k g2]
      have ld : fX6_load N σ (nI cap) = some (0, τ) := by
        unfold fX6_load
        rw [a1, if6 _ (by omega), shl6 _ (by omega), xLetI_e, t1, xB_s, xLet_e, s1]
      have e1 : τ 73 2 = S.1 := congrArg (fun s => s.1) s2
      have e2 : τ 73 3 = S.2.1 := congrArg (fun s => s.2.1) s2
      have e3 : τ 73 4 = S.2.2 := congrArg (fun s => s.2.2) s2
      have hc : fX9_laden N σ (nI cap) (nI j) = if nI j = 0 then some (S.1, τ) else if nI j = 1 then some (S.2.1, τ) else some (S.2.2, τ) := by
        unfold fX9_laden
        have hj2 : nI j ≤ 2 := nI_le (b := 2) (by omega) (by decide)
        rw [if_neg g1, if_neg g2, if_neg (nI_pos (by omega)), if_pos hj2, ld, xB_s, e1, e2, e3]
      have hm : fX10_laden N τ (nI cap) (nI j) = if nI j = 0 then some (S.1, τ) else if nI j = 1 then some (S.2.1, τ) else some (S.2.2, τ) := by
        have hin2 : fX10_in N τ (nI cap).toInt64 1 72 = some (if (1 : Int32) ≤ nI cap ∧ nI cap ≤ 72 then 1 else 0, τ) := in_spec2 1 72 rfl rfl
        unfold fX10_laden
        rw [hin2, xB_s, ite1, if_pos hr, show (2 : Int64) = (nI 3 - 1).toInt64 from rfl, ref_test (by decide), xB_s, ite1, if_pos ⟨j, hj, rfl⟩, xin198, gd_t, c1, fr 86 1 (by omega) (by omega), a2, shl6 _ (by omega), xLetI_e]
        have := loads_m (N := N) (σ := τ) (M := 2 ^ A 0 1) (cap := cap) (v2 := nI j) (s := (-1, 0, 0)) (k := fun x24 x25 x26 m27 => if nI j = 0 then some (x24, m27) else if nI j = 1 then some (x25, m27) else some (x26, m27)) (by omega) (h.tm.eqL h.tw (fun k _ => fr _ _ (by omega) (by omega))) h.tw hM (by omega)
        rw [hS] at this
        exact this
      have kp : Kp σ τ := by
        intro a k q
        by_cases x : a = 73
        · subst x; exact absurd (q.symm.trans (show lv _ _ = false from rfl)) (by decide)
        · by_cases y : a = 74
          · subst y; exact absurd (q.symm.trans (show lv _ _ = false from rfl)) (by decide)
          · exact fr a k x y
      by_cases y0 : nI j = 0
      · rw [if_pos y0] at hc hm
        exact sim_kp (f := fun σ => fX9_laden N σ (nI cap) (nI j)) (g := fun σ => fX10_laden N σ (nI cap) (nI j)) hR hc hm kp Kp.rf
      · rw [if_neg y0] at hc hm
        by_cases y1 : nI j = 1
        · rw [if_pos y1] at hc hm
          exact sim_kp (f := fun σ => fX9_laden N σ (nI cap) (nI j)) (g := fun σ => fX10_laden N σ (nI cap) (nI j)) hR hc hm kp Kp.rf
        · rw [if_neg y1] at hc hm
          exact sim_kp (f := fun σ => fX9_laden N σ (nI cap) (nI j)) (g := fun σ => fX10_laden N σ (nI cap) (nI j)) hR hc hm kp Kp.rf
  · refine bad ?_ ?_
    · unfold fX9_laden
      by_cases g1 : a < 1
      · rw [if_pos g1]
      · rw [if_neg g1, if_pos (Int32.not_le.mp (fun q => hr ⟨Int32.not_lt.mp g1, q⟩))]
    · unfold fX10_laden
      rw [hin, xB_s, ite1, if_neg hr]
