/-! THE LAYER: one memory (cell number, place) of whole numbers for class and reference; JF: the machine at a place of a method does what a pure term says. Laid by wip/whole/gen/layer.py. -/
def xG : List Cond := lw_tbl.filter goodWord
theorem xq {w : Cond} (i : Nat) (h : lw_tbl[i]? = some w) (g : goodWord w = true) : w ∈ xG := List.mem_filter.mpr ⟨List.mem_of_getElem? h, g⟩
theorem xG_in : ∀ w ∈ xG, w ∈ lw_tbl := fun w h => (List.mem_filter.mp h).1
abbrev XS : Type := Nat → Nat → Int32
abbrev XO : Type := Int32 × XS
def xUf (σ : XS) (i : Nat) (f : Nat → Int32) : XS := fun a => if a = i then f else σ a
def xUp (σ : XS) (i k : Nat) (v : Int32) : XS := xUf σ i (upd (σ i) k v)
def xin (i : Int32) (n : Nat) : Bool := !(decide (i < 0) || decide (n ≤ i.toNatClampNeg))
theorem xin_ok {i : Int32} {n : Nat} (h : xin i n = true) : vp_in i n := by
  intro q
  simp only [xin, Bool.not_eq_true', Bool.or_eq_false_iff, decide_eq_false_iff_not] at h
  rcases q with q | q
  · exact h.1 q
  · exact h.2 q
/-- a guard: nothing is said where it fails -/
def gd (b : Bool) (T : Option XO) : Option XO := match b with
  | true => T
  | false => none
/-- what each cell is: (0, kind, fields: a cell or a number), (1, n) whole numbers, (2, n) chars, (3, n) booleans, (4, n, rows) rows of rows -/
def shpL : List (Nat × Nat × List (Option Nat)) := [(0, 9, [some 1, some 11, some 29, some 44, some 46, some 47, some 66, some 73, some 75, some 84]), (0, 8, [some 2, some 3, some 4, some 5, some 6, some 7, some 8, some 9, some 10, none, none, none, none]), (1, 9, []), (1, 9, []), (1, 9, []), (1, 9, []), (1, 4, []), (1, 6, []), (1, 6, []), (1, 3, []), (1, 6, []), (0, 7, [some 12, some 13, some 14, none, none, none, none, none, none, none]), (2, 160, []), (1, 14, []), (4, 14, [some 15, some 16, some 17, some 18, some 19, some 20, some 21, some 22, some 23, some 24, some 25, some 26, some 27, some 28]), (1, 3, []), (1, 3, []), (1, 3, []), (1, 3, []), (1, 3, []), (1, 3, []), (1, 3, []), (1, 3, []), (1, 3, []), (1, 3, []), (1, 3, []), (1, 3, []), (1, 3, []), (1, 3, []), (0, 0, [some 30, some 31, some 40, some 43, none, none]), (1, 14, []), (4, 8, [some 32, some 33, some 34, some 35, some 36, some 37, some 38, some 39]), (1, 14, []), (1, 14, []), (1, 14, []), (1, 14, []), (1, 14, []), (1, 14, []), (1, 14, []), (1, 14, []), (4, 2, [some 41, some 42]), (1, 14, []), (1, 14, []), (3, 2, []), (0, 4, [some 45, none]), (1, 6, []), (0, 1, [some 1, none, none, none, none]), (0, 2, [some 1, some 46, some 44, some 48, some 56, none, some 64]), (4, 7, [some 49, some 50, some 51, some 52, some 53, some 54, some 55]), (1, 26, []), (1, 26, []), (1, 26, []), (1, 26, []), (1, 26, []), (1, 26, []), (1, 26, []), (4, 7, [some 57, some 58, some 59, some 60, some 61, some 62, some 63]), (1, 26, []), (1, 26, []), (1, 26, []), (1, 26, []), (1, 26, []), (1, 26, []), (1, 26, []), (0, 4, [some 65, none]), (1, 6, []), (0, 3, [some 1, some 67]), (4, 5, [some 68, some 69, some 70, some 71, some 72]), (1, 2, []), (1, 2, []), (1, 2, []), (1, 2, []), (1, 2, []), (0, 6, [some 1, some 74, none, none, none]), (1, 64, []), (0, 5, [some 1, some 76, some 77, some 78, some 80, some 82, none, none, none, none]), (1, 6, []), (1, 6, []), (0, 4, [some 79, none]), (1, 6, []), (0, 4, [some 81, none]), (1, 6, []), (0, 4, [some 83, none]), (1, 6, []), (1, 6, []), (0, 10, [some 86, some 87, none, some 88, some 89, some 90, none, some 91, none, none, some 92, none, none, none, none, none, some 93, none, none, none, none, some 94, some 95, none, some 96, some 97, none]), (1, 98, []), (1, 784, []), (1, 196, []), (3, 2, []), (1, 6, []), (1, 12, []), (1, 160, []), (1, 56, []), (1, 6, []), (1, 6, []), (1, 6, []), (1, 3, [])]
def shp (i : Nat) : Nat × Nat × List (Option Nat) := shpL.getD i (9, 0, [])
def NC : Nat := 98
def xflds (Am : Nat → Nat) (σ : XS) (i : Nat) (fs : List (Option Nat)) : List Value := (List.range fs.length).map (fun k => match fs.getD k none with
  | some t => .ref (Am t)
  | none => .int (σ i k))
def xcellOf (Am : Nat → Nat) (cy : Nat → ClassId) (σ : XS) (i : Nat) (h : Nat × Nat × List (Option Nat)) : va_E := match h with
  | (0, c, fs) => .inr (c, xflds Am σ i fs)
  | (4, n, fs) => .inl (cy 4, n, .inr (.inr (.inr (.inr (fun j => (fs.getD j none).map Am)))))
  | (t, n, _) => .inl (cy t, n, .inl (σ i))
def xcell (Am : Nat → Nat) (cy : Nat → ClassId) (σ : XS) (i : Nat) : va_E := xcellOf Am cy σ i (shp i)
def xw (Am : Nat → Nat) (cy : Nat → ClassId) (σ : XS) : va_W := (List.range NC).map (fun i => (Am i, xcell Am cy σ i))
def xtys (cy : Nat → ClassId) : List (ClassId × FieldType) := [(cy 1, .int), (cy 2, .char), (cy 3, .boolean), (cy 4, .array .int)]
theorem xw_get {Am : Nat → Nat} {cy : Nat → ClassId} {σ : XS} {i : Nat} (h : i < NC) : (xw Am cy σ)[i]? = some (Am i, xcell Am cy σ i) := by
  unfold xw
  rw [List.getElem?_map, List.getElem?_range h]
  rfl
theorem shp_lt {i t n : Nat} {fs : List (Option Nat)} (h : shp i = (t, n, fs)) (ht : t < 9) : i < NC := by
  rcases Nat.lt_or_ge i NC with q | q
  · exact q
  · exfalso
    have : shp i = (9, 0, []) := by
      unfold shp
      rw [List.getD_eq_getElem?_getD, List.getElem?_eq_none (show shpL.length ≤ i from q)]
      rfl
    rw [this] at h
    have := congrArg Prod.fst h
    simp only at this
    omega
theorem xw_at {Am : Nat → Nat} {cy : Nat → ClassId} {σ : XS} {i t n : Nat} {fs : List (Option Nat)} (h : shp i = (t, n, fs)) (ht : t < 9) : (xw Am cy σ)[i]? = some (Am i, xcellOf Am cy σ i (t, n, fs)) := by
  rw [xw_get (shp_lt h ht), xcell, h]
theorem xflds_get {Am : Nat → Nat} {σ : XS} {i k : Nat} {fs : List (Option Nat)} (h : k < fs.length) : (xflds Am σ i fs)[k]? = some (match fs.getD k none with | some t => .ref (Am t) | none => .int (σ i k)) := by
  unfold xflds
  rw [List.getElem?_map, List.getElem?_range h]
  rfl
theorem xflds_ref {Am : Nat → Nat} {σ : XS} {i k t : Nat} {fs : List (Option Nat)} (h : fs[k]? = some (some t)) : (xflds Am σ i fs)[k]? = some (.ref (Am t)) := by
  rw [xflds_get (List.getElem?_eq_some_iff.mp h).1, List.getD_eq_getElem?_getD, h]
  rfl
theorem xflds_int {Am : Nat → Nat} {σ : XS} {i k : Nat} {fs : List (Option Nat)} (h : fs[k]? = some none) : (xflds Am σ i fs)[k]? = some (.int (σ i k)) := by
  rw [xflds_get (List.getElem?_eq_some_iff.mp h).1, List.getD_eq_getElem?_getD, h]
  rfl
theorem xflds_set {Am : Nat → Nat} {σ : XS} {i k : Nat} {fs : List (Option Nat)} {v : Int32} (h : fs[k]? = some none) : (xflds Am σ i fs).set k (.int v) = xflds Am (xUp σ i k v) i fs := by
  refine List.ext_getElem? (fun j => ?_)
  have hk := (List.getElem?_eq_some_iff.mp h).1
  have hl : (xflds Am σ i fs).length = fs.length := by simp [xflds]
  by_cases hj : j < fs.length
  · rw [xflds_get hj]
    by_cases e : k = j
    · subst e
      rw [List.getElem?_set_self (by omega), List.getD_eq_getElem?_getD, h]
      simp [xUp, xUf, upd]
    · rw [List.getElem?_set_ne e, xflds_get hj]
      have : (xUp σ i k v) i j = σ i j := by simp [xUp, xUf, upd, Ne.symm e]
      rw [this]
  · rw [List.getElem?_eq_none (by simp [hl]; omega), List.getElem?_eq_none (by simp [xflds]; omega)]
theorem xUf_ne {σ : XS} {i a : Nat} {f : Nat → Int32} (h : a ≠ i) : xUf σ i f a = σ a := if_neg h
theorem xUf_eq {σ : XS} {i : Nat} {f : Nat → Int32} : xUf σ i f i = f := if_pos rfl
theorem xcellOf_ne {Am : Nat → Nat} {cy : Nat → ClassId} {σ σ' : XS} {i : Nat} {h : Nat × Nat × List (Option Nat)} (e : σ' i = σ i) : xcellOf Am cy σ' i h = xcellOf Am cy σ i h := by
  have hf : ∀ fs, xflds Am σ' i fs = xflds Am σ i fs := by intro fs; simp [xflds, e]
  unfold xcellOf
  split <;> simp [hf, e]
theorem xw_put {Am : Nat → Nat} {cy : Nat → ClassId} {σ : XS} {i : Nat} {f : Nat → Int32} {e : va_E} (h : i < NC) (he : e = xcell Am cy (xUf σ i f) i) : (xw Am cy σ).set i (Am i, e) = xw Am cy (xUf σ i f) := by
  refine List.ext_getElem? (fun j => ?_)
  by_cases hj : j < NC
  · rw [xw_get hj]
    by_cases q : i = j
    · subst q
      rw [List.getElem?_set_self (by simp [xw]; omega), he]
    · rw [List.getElem?_set_ne q, xw_get hj]
      congr 2
      exact (xcellOf_ne (xUf_ne (Ne.symm q))).symm
  · rw [List.getElem?_eq_none (by simp [xw]; omega), List.getElem?_eq_none (by simp [xw]; omega)]
/-- the texts: their bytes -/
def xbytS : List (List Int32) := [[112, 108, 97, 105, 110], [101, 108, 105, 100, 101, 100], [102, 97, 108, 115, 101], [102, 114, 101, 101], [115, 116, 114, 105, 99, 116], [115, 108, 117, 114, 114, 105, 110, 103], [100, 101, 97, 102], [110, 111, 110, 101], [114, 105, 115, 105, 110, 103], [102, 97, 108, 108, 105, 110, 103], [99, 117, 115, 116, 111, 109, 115], [112, 111, 114, 116], [119, 97, 114, 101], [117, 115, 101, 115], [83, 84, 82], [83, 82], [], [80, 82], [87, 80], [82, 78]]
def xlenS : List Nat := [5, 6, 5, 4, 6, 8, 4, 4, 6, 7, 7, 4, 4, 4, 3, 2, 0, 2, 2, 2]
def xtxtS : List String := ["plain", "elided", "false", "free", "strict", "slurring", "deaf", "none", "rising", "falling", "customs", "port", "ware", "uses", "STR", "SR", "", "PR", "WP", "RN"]
/-- the links to private members of nest mates -/
def xNestL : List (String × Nat × MethodName) := [(RX9, 18, yX7_init), (RX9, 25, yX0_init), (RX9, 32, yX4_init), (RX2, 21, yX4_init), (RX5, 20, yX4_init), (RX8, 58, yX9_at), (RX1, 33, yX9_at), (RX2, 82, yX9_at), (RX3, 38, yX9_at), (RX6, 48, yX9_hasBit), (RX6, 38, yX9_at), (RX5, 99, yX9_hasBit)]
/-- what isn't changed by any call: texts, two constant rows, two statics; z: the first cell that may change -/
def XG (z : Nat) (ad : Nat → Nat) (U : State) (H : Heap) : Prop :=
  vk_S 20 xlenS xbytS ad (fun k => ad (100 + k)) (fun q => z ≤ q) U H ∧
  va_Z "VerseCustoms" "WORD_IS" "[I" (.ref (ad 200)) (fun q => z ≤ q) U H ∧ va_T .int (ad 200) 4 (fun j => .int ([3, 7, 9, 25].getD j 0)) (fun q => z ≤ q) U H ∧
  va_Z "VerseCustoms" "CLERK_IS" "[I" (.ref (ad 201)) (fun q => z ≤ q) U H ∧ va_T .int (ad 201) 3 (fun j => .int ([3, 5, 11].getD j 0)) (fun q => z ≤ q) U H ∧
  va_Z "java/lang/String" "COMPACT_STRINGS" "Z" (.int 1) (fun q => z ≤ q) U H ∧
  va_Zq "jdk/internal/util/Preconditions" "SIOOBE_FORMATTER" "Ljava/util/function/BiFunction;" (fun q => z ≤ q) U H ∧
  (∀ k : Nat, k < 20 → vk_R "VerseCustoms$Text" (126 + 2 * k) (xtxtS.getD k "") (ad k) U) ∧ ∀ q ∈ xNestL, va_Nw (.methodLinkNest q.1 q.2.1 q.2.2 "VerseCustoms") U
theorem XG.warm {z : Nat} {ad : Nat → Nat} {u U : State} {H : Heap} (hW : u.WarmedH U.vm) (h : XG z ad u H) : XG z ad U H :=
  ⟨vk_S.moved hW.alike h.1, va_Z.moved hW.alike h.2.1, va_T.moved hW.alike h.2.2.1, va_Z.moved hW.alike h.2.2.2.1, va_T.moved hW.alike h.2.2.2.2.1, va_Z.moved hW.alike h.2.2.2.2.2.1, va_Zq.moved hW.alike h.2.2.2.2.2.2.1, fun k hk => vk_R.warm hW (h.2.2.2.2.2.2.2.1 k hk), fun q hq => va_Nw.warmM hW (h.2.2.2.2.2.2.2.2 q hq)⟩
theorem XG.same {z : Nat} {ad : Nat → Nat} {u U : State} {H : Heap} (hv : U.vm = u.vm) (h : XG z ad u H) : XG z ad U H := by
  have hvm : u.vm.Alike U.vm := by rw [hv]; exact Vm.Alike.refl _
  exact ⟨vk_S.moved hvm h.1, va_Z.moved hvm h.2.1, va_T.moved hvm h.2.2.1, va_Z.moved hvm h.2.2.2.1, va_T.moved hvm h.2.2.2.2.1, va_Z.moved hvm h.2.2.2.2.2.1, va_Zq.moved hvm h.2.2.2.2.2.2.1, fun k hk => vk_R.same hv (h.2.2.2.2.2.2.2.1 k hk), fun q hq => va_Nw.same rfl hv.symm (h.2.2.2.2.2.2.2.2 q hq)⟩
theorem XG.kept {z : Nat} {ad : Nat → Nat} {U : State} {H H1 : Heap} (h : XG z ad U H) (hq : ∀ a : Nat, a < H.size → ¬ z ≤ a → H1[a]? = H[a]?) : XG z ad U H1 :=
  ⟨h.1.kept hq, h.2.1.kept hq, h.2.2.1.kept hq, h.2.2.2.1.kept hq, h.2.2.2.2.1.kept hq, h.2.2.2.2.2.1.kept hq, va_Zq.kept h.2.2.2.2.2.2.1 hq, h.2.2.2.2.2.2.2⟩

abbrev XC : Type := Program × Launch × Env × Room × State × MethodId × Array Value × List Frame × Method × Code × (va_G × (Nat → Nat) × (Nat → ClassId) × Nat × (Nat → Nat)) × (Nat → Prop) × (State → Prop) × Nat × Nat
def xa (X : XC) (i : Nat) : Nat := X.2.2.2.2.2.2.2.2.2.2.1.2.1 i
/-- constants' addresses -/
def xk (X : XC) (i : Nat) : Nat := X.2.2.2.2.2.2.2.2.2.2.1.2.2.2.2 i
def xW (X : XC) (H : Heap) (locs : List Loc) (pc : Nat) (ls : Array Slot) (st : List Value) : Prop := match X with
  | (p, l, e, R, s, m, args, below, meth, c, _, _, Q, cells, slots) => W p l e R s m args below meth c H locs cells slots Q (F0 m pc ls st)
def xHold (X : XC) (σ : XS) (H : Heap) (locs : List Loc) : Prop := match X with
  | (_, _, _, _, s, _, _, _, _, _, (D, Am, cy, _, _), A0, _, _, _) => va_P D vwCl (xw Am cy σ) H ∧ va_D A0 (xw Am cy σ) ∧ va_S A0 s.heap H locs
def JF (X : XC) (o : XO) (nL : Nat) (pc : Nat) (lv : List (Nat × Value)) (st : List Value) (σ : XS) (T : Option XO) : Prop := T = some o → ∀ (H : Heap) (locs : List Loc) (ls : Array Slot), lv_has ls nL lv → xHold X σ H locs → xW X H locs pc ls st
def XE (X : XC) (cc : ByteArray) (own : String) (nL fr lo : Nat) : Prop := match X with
  | (p, _, _, R, s, m, args, _, _, c, (D, _, cy, z, ad), A0, _, cells, slots) => p.tables.exec = Jvm.exec ∧ c.code = cc ∧ c.maxLocals = nL ∧ s.vm.findClass own = some m.cls ∧ (∀ w ∈ xG, w.before args s = true) ∧ va_K D vwCl (xtys cy) s ∧ (∀ q, s.heap.size ≤ q → A0 q) ∧ (∀ q, A0 q → z ≤ q) ∧ z ≤ s.heap.size ∧ XG z ad s s.heap ∧ R.frames = fr ∧ R.locals = lo ∧ cells ≤ R.cells ∧ slots ≤ R.slots
/-- the end of a method whose answer is a number -/
def XI (X : XC) (o : XO) (cc : ByteArray) : Prop := ∀ (pc : Nat) (H : Heap) (locs : List Loc) (ls : Array Slot), decode cc pc = .ok (.ireturn, 1) → xHold X o.2 H locs → xW X H locs pc ls [.int o.1]
def XV (X : XC) (o : XO) (cc : ByteArray) : Prop := ∀ (pc : Nat) (H : Heap) (locs : List Loc) (ls : Array Slot), decode cc pc = .ok (.return_, 1) → xHold X o.2 H locs → xW X H locs pc ls []
/-- the end of a method whose answer is a text -/
def XR (X : XC) (o : XO) (cc : ByteArray) : Prop := ∀ (pc : Nat) (H : Heap) (locs : List Loc) (ls : Array Slot) (k : Nat), k < 20 → o.1 = nI k → decode cc pc = .ok (.areturn, 1) → xHold X o.2 H locs → xW X H locs pc ls [.ref (xk X k)]

section JR
variable {X : XC} {o : XO} {cc : ByteArray} {own : String} {nL fr lo : Nat} {pc : Nat} {lv : List (Nat × Value)} {st : List Value} {σ : XS} {T : Option XO}
theorem JF.none {X : XC} {o : XO} {nL pc : Nat} {lv : List (Nat × Value)} {st : List Value} {σ : XS} : JF X o nL pc lv st σ none := fun h => by cases h
theorem JF.gd {b : Bool} (K : b = true → JF X o nL pc lv st σ T) : JF X o nL pc lv st σ (gd b T) := by
  cases b with
  | true => exact K rfl
  | false => exact JF.none
theorem JF.ite {q : Prop} {dq : Decidable q} {T1 T2 : Option XO} (K1 : q → JF X o nL pc lv st σ T1) (K2 : ¬ q → JF X o nL pc lv st σ T2) : JF X o nL pc lv st σ (@ite _ q dq T1 T2) := by
  by_cases h : q
  · rw [if_pos h]; exact K1 h
  · rw [if_neg h]; exact K2 h
theorem JF.sub {lv1 : List (Nat × Value)} (ks : List Nat) (h : lv_pick lv ks = lv1) (K : JF X o nL pc lv1 st σ T) : JF X o nL pc lv st σ T := fun hT H locs ls hl hH => K hT H locs ls (lv_sub hl ks h) hH
def xLet (v : XS) (k : XS → Option XO) : Option XO := k v
def xLetI (v : Int32) (k : Int32 → Option XO) : Option XO := k v
def xLetL (v : Int64) (k : Int64 → Option XO) : Option XO := k v
theorem JF.xlet {v : XS} {kk : XS → Option XO} (K : ∀ w, v = w → JF X o nL pc lv st σ (kk w)) : JF X o nL pc lv st σ (xLet v kk) := K v rfl
theorem JF.xletI {v : Int32} {kk : Int32 → Option XO} (K : ∀ w, JF X o nL pc lv (.int w :: st) σ (kk w)) : JF X o nL pc lv (.int v :: st) σ (xLetI v kk) := K v
theorem JF.xletL {v : Int64} {kk : Int64 → Option XO} (K : ∀ w, JF X o nL pc lv (.long w :: st) σ (kk w)) : JF X o nL pc lv (.long v :: st) σ (xLetL v kk) := K v
theorem JF.eq {T2 : Option XO} (h : T = T2) (K : JF X o nL pc lv st σ T2) : JF X o nL pc lv st σ T := h ▸ K
theorem j_iconst {n : Int} {v : Int32} (hv : Int32.ofInt n = v) (E : XE X cc own nL fr lo) (d : decode cc pc = .ok (.iconst n, 1)) (K : JF X o nL (pc + 1) lv (.int v :: st) σ T) : JF X o nL pc lv (st) σ T := by
  obtain ⟨p, l, e, R, s, m, args, below, meth, c, ⟨D, Am, cy, z, ad⟩, A0, Q, cells, slots⟩ := X
  obtain ⟨hx, hb, hml, hown, hts, hK, hA, hAz, hz, hG, hfr, hlo, hcl, hsl⟩ := E
  intro hT H locs ls hl hH
  exact lv_iconst hx hb d hv (K hT H locs ls hl hH)
theorem j_bipush {n : Int} {v : Int32} (hv : (Int8.ofInt n).toInt32 = v) (E : XE X cc own nL fr lo) (d : decode cc pc = .ok (.bipush n, 2)) (K : JF X o nL (pc + 2) lv (.int v :: st) σ T) : JF X o nL pc lv (st) σ T := by
  obtain ⟨p, l, e, R, s, m, args, below, meth, c, ⟨D, Am, cy, z, ad⟩, A0, Q, cells, slots⟩ := X
  obtain ⟨hx, hb, hml, hown, hts, hK, hA, hAz, hz, hG, hfr, hlo, hcl, hsl⟩ := E
  intro hT H locs ls hl hH
  exact lv_bipush hx hb d hv (K hT H locs ls hl hH)
theorem j_sipush {n : Int} {v : Int32} (hv : (Int16.ofInt n).toInt32 = v) (E : XE X cc own nL fr lo) (d : decode cc pc = .ok (.sipush n, 3)) (K : JF X o nL (pc + 3) lv (.int v :: st) σ T) : JF X o nL pc lv (st) σ T := by
  obtain ⟨p, l, e, R, s, m, args, below, meth, c, ⟨D, Am, cy, z, ad⟩, A0, Q, cells, slots⟩ := X
  obtain ⟨hx, hb, hml, hown, hts, hK, hA, hAz, hz, hG, hfr, hlo, hcl, hsl⟩ := E
  intro hT H locs ls hl hH
  exact lv_sipush hx hb d hv (K hT H locs ls hl hH)
theorem j_lconst {n : Fin 2} {v : Int64} (hv : Int64.ofNat (n : Nat) = v) (E : XE X cc own nL fr lo) (d : decode cc pc = .ok (.lconst n, 1)) (K : JF X o nL (pc + 1) lv (.long v :: st) σ T) : JF X o nL pc lv (st) σ T := by
  obtain ⟨p, l, e, R, s, m, args, below, meth, c, ⟨D, Am, cy, z, ad⟩, A0, Q, cells, slots⟩ := X
  obtain ⟨hx, hb, hml, hown, hts, hK, hA, hAz, hz, hG, hfr, hlo, hcl, hsl⟩ := E
  intro hT H locs ls hl hH
  exact lv_lconst hx hb d hv (K hT H locs ls hl hH)
theorem j_iload_n {k : Fin 4} {i : Nat} {x : Int32} (hi : (k : Nat) = i) (q : Nat) (h : lv[q]? = some (i, .int x)) (E : XE X cc own nL fr lo) (d : decode cc pc = .ok (.iload_n k, 1)) (K : JF X o nL (pc + 1) lv (.int x :: st) σ T) : JF X o nL pc lv (st) σ T := by
  obtain ⟨p, l, e, R, s, m, args, below, meth, c, ⟨D, Am, cy, z, ad⟩, A0, Q, cells, slots⟩ := X
  obtain ⟨hx, hb, hml, hown, hts, hK, hA, hAz, hz, hG, hfr, hlo, hcl, hsl⟩ := E
  intro hT H locs ls hl hH
  exact lv_iload_n hx hb d hi (lv_at hl q h) (K hT H locs ls hl hH)
theorem j_iload {i : Nat} {x : Int32} (q : Nat) (h : lv[q]? = some (i, .int x)) (E : XE X cc own nL fr lo) (d : decode cc pc = .ok (.iload i, 2)) (K : JF X o nL (pc + 2) lv (.int x :: st) σ T) : JF X o nL pc lv (st) σ T := by
  obtain ⟨p, l, e, R, s, m, args, below, meth, c, ⟨D, Am, cy, z, ad⟩, A0, Q, cells, slots⟩ := X
  obtain ⟨hx, hb, hml, hown, hts, hK, hA, hAz, hz, hG, hfr, hlo, hcl, hsl⟩ := E
  intro hT H locs ls hl hH
  exact lv_iload hx hb d (lv_at hl q h) (K hT H locs ls hl hH)
theorem j_lload_n {k : Fin 4} {i : Nat} {x : Int64} (hi : (k : Nat) = i) (q : Nat) (h : lv[q]? = some (i, .long x)) (E : XE X cc own nL fr lo) (d : decode cc pc = .ok (.lload_n k, 1)) (K : JF X o nL (pc + 1) lv (.long x :: st) σ T) : JF X o nL pc lv (st) σ T := by
  obtain ⟨p, l, e, R, s, m, args, below, meth, c, ⟨D, Am, cy, z, ad⟩, A0, Q, cells, slots⟩ := X
  obtain ⟨hx, hb, hml, hown, hts, hK, hA, hAz, hz, hG, hfr, hlo, hcl, hsl⟩ := E
  intro hT H locs ls hl hH
  exact lv_lload_n hx hb d hi (lv_at hl q h) (K hT H locs ls hl hH)
theorem j_lload {i : Nat} {x : Int64} (q : Nat) (h : lv[q]? = some (i, .long x)) (E : XE X cc own nL fr lo) (d : decode cc pc = .ok (.lload i, 2)) (K : JF X o nL (pc + 2) lv (.long x :: st) σ T) : JF X o nL pc lv (st) σ T := by
  obtain ⟨p, l, e, R, s, m, args, below, meth, c, ⟨D, Am, cy, z, ad⟩, A0, Q, cells, slots⟩ := X
  obtain ⟨hx, hb, hml, hown, hts, hK, hA, hAz, hz, hG, hfr, hlo, hcl, hsl⟩ := E
  intro hT H locs ls hl hH
  exact lv_lload hx hb d (lv_at hl q h) (K hT H locs ls hl hH)
theorem j_aload_n {k : Fin 4} {i : Nat} {x : Nat} (hi : (k : Nat) = i) (q : Nat) (h : lv[q]? = some (i, .ref x)) (E : XE X cc own nL fr lo) (d : decode cc pc = .ok (.aload_n k, 1)) (K : JF X o nL (pc + 1) lv (.ref x :: st) σ T) : JF X o nL pc lv (st) σ T := by
  obtain ⟨p, l, e, R, s, m, args, below, meth, c, ⟨D, Am, cy, z, ad⟩, A0, Q, cells, slots⟩ := X
  obtain ⟨hx, hb, hml, hown, hts, hK, hA, hAz, hz, hG, hfr, hlo, hcl, hsl⟩ := E
  intro hT H locs ls hl hH
  exact lv_aload_n hx hb d hi (lv_at hl q h) (K hT H locs ls hl hH)
theorem j_aload {i : Nat} {x : Nat} (q : Nat) (h : lv[q]? = some (i, .ref x)) (E : XE X cc own nL fr lo) (d : decode cc pc = .ok (.aload i, 2)) (K : JF X o nL (pc + 2) lv (.ref x :: st) σ T) : JF X o nL pc lv (st) σ T := by
  obtain ⟨p, l, e, R, s, m, args, below, meth, c, ⟨D, Am, cy, z, ad⟩, A0, Q, cells, slots⟩ := X
  obtain ⟨hx, hb, hml, hown, hts, hK, hA, hAz, hz, hG, hfr, hlo, hcl, hsl⟩ := E
  intro hT H locs ls hl hH
  exact lv_aload hx hb d (lv_at hl q h) (K hT H locs ls hl hH)
theorem j_istore_n {k : Fin 4} {i : Nat} {x : Int32} {lv1 : List (Nat × Value)} (E : XE X cc own nL fr lo) (d : decode cc pc = .ok (.istore_n k, 1)) (hi : (k : Nat) = i) (hn : i < nL) (hl1 : (i, Value.int x) :: lv.filter (fun q => !(q.1 == i) && !(q.1 + 1 == i && q.2.category == 2)) = lv1) (K : JF X o nL (pc + 1) lv1 st σ T) : JF X o nL pc lv (.int x :: st) σ T := by
  obtain ⟨p, l, e, R, s, m, args, below, meth, c, ⟨D, Am, cy, z, ad⟩, A0, Q, cells, slots⟩ := X
  obtain ⟨hx, hb, hml, hown, hts, hK, hA, hAz, hz, hG, hfr, hlo, hcl, hsl⟩ := E
  intro hT H locs ls hl hH
  exact lv_istore_n hx hb d hi hl hn hl1 (fun ls1 hl1 => K hT H locs ls1 hl1 hH)
theorem j_istore {i : Nat} {x : Int32} {lv1 : List (Nat × Value)} (E : XE X cc own nL fr lo) (d : decode cc pc = .ok (.istore i, 2)) (hn : i < nL) (hl1 : (i, Value.int x) :: lv.filter (fun q => !(q.1 == i) && !(q.1 + 1 == i && q.2.category == 2)) = lv1) (K : JF X o nL (pc + 2) lv1 st σ T) : JF X o nL pc lv (.int x :: st) σ T := by
  obtain ⟨p, l, e, R, s, m, args, below, meth, c, ⟨D, Am, cy, z, ad⟩, A0, Q, cells, slots⟩ := X
  obtain ⟨hx, hb, hml, hown, hts, hK, hA, hAz, hz, hG, hfr, hlo, hcl, hsl⟩ := E
  intro hT H locs ls hl hH
  exact lv_istore hx hb d hl hn hl1 (fun ls1 hl1 => K hT H locs ls1 hl1 hH)
theorem j_astore_n {k : Fin 4} {i : Nat} {x : Nat} {lv1 : List (Nat × Value)} (E : XE X cc own nL fr lo) (d : decode cc pc = .ok (.astore_n k, 1)) (hi : (k : Nat) = i) (hn : i < nL) (hl1 : (i, Value.ref x) :: lv.filter (fun q => !(q.1 == i) && !(q.1 + 1 == i && q.2.category == 2)) = lv1) (K : JF X o nL (pc + 1) lv1 st σ T) : JF X o nL pc lv (.ref x :: st) σ T := by
  obtain ⟨p, l, e, R, s, m, args, below, meth, c, ⟨D, Am, cy, z, ad⟩, A0, Q, cells, slots⟩ := X
  obtain ⟨hx, hb, hml, hown, hts, hK, hA, hAz, hz, hG, hfr, hlo, hcl, hsl⟩ := E
  intro hT H locs ls hl hH
  exact lv_astore_n hx hb d hi hl hn hl1 (fun ls1 hl1 => K hT H locs ls1 hl1 hH)
theorem j_astore {i : Nat} {x : Nat} {lv1 : List (Nat × Value)} (E : XE X cc own nL fr lo) (d : decode cc pc = .ok (.astore i, 2)) (hn : i < nL) (hl1 : (i, Value.ref x) :: lv.filter (fun q => !(q.1 == i) && !(q.1 + 1 == i && q.2.category == 2)) = lv1) (K : JF X o nL (pc + 2) lv1 st σ T) : JF X o nL pc lv (.ref x :: st) σ T := by
  obtain ⟨p, l, e, R, s, m, args, below, meth, c, ⟨D, Am, cy, z, ad⟩, A0, Q, cells, slots⟩ := X
  obtain ⟨hx, hb, hml, hown, hts, hK, hA, hAz, hz, hG, hfr, hlo, hcl, hsl⟩ := E
  intro hT H locs ls hl hH
  exact lv_astore hx hb d hl hn hl1 (fun ls1 hl1 => K hT H locs ls1 hl1 hH)
theorem j_lstore_n {k : Fin 4} {i : Nat} {x : Int64} {lv1 : List (Nat × Value)} (E : XE X cc own nL fr lo) (d : decode cc pc = .ok (.lstore_n k, 1)) (hi : (k : Nat) = i) (hn : i + 1 < nL) (hl1 : (i, Value.long x) :: lv.filter (fun q => !(q.1 == i) && (!(q.1 == i + 1) && !(q.1 + 1 == i && q.2.category == 2))) = lv1) (K : JF X o nL (pc + 1) lv1 st σ T) : JF X o nL pc lv (.long x :: st) σ T := by
  obtain ⟨p, l, e, R, s, m, args, below, meth, c, ⟨D, Am, cy, z, ad⟩, A0, Q, cells, slots⟩ := X
  obtain ⟨hx, hb, hml, hown, hts, hK, hA, hAz, hz, hG, hfr, hlo, hcl, hsl⟩ := E
  intro hT H locs ls hl hH
  exact lv_lstore_n hx hb d hi hl hn hl1 (fun ls1 hl1 => K hT H locs ls1 hl1 hH)
theorem j_lstore {i : Nat} {x : Int64} {lv1 : List (Nat × Value)} (E : XE X cc own nL fr lo) (d : decode cc pc = .ok (.lstore i, 2)) (hn : i + 1 < nL) (hl1 : (i, Value.long x) :: lv.filter (fun q => !(q.1 == i) && (!(q.1 == i + 1) && !(q.1 + 1 == i && q.2.category == 2))) = lv1) (K : JF X o nL (pc + 2) lv1 st σ T) : JF X o nL pc lv (.long x :: st) σ T := by
  obtain ⟨p, l, e, R, s, m, args, below, meth, c, ⟨D, Am, cy, z, ad⟩, A0, Q, cells, slots⟩ := X
  obtain ⟨hx, hb, hml, hown, hts, hK, hA, hAz, hz, hG, hfr, hlo, hcl, hsl⟩ := E
  intro hT H locs ls hl hH
  exact lv_lstore hx hb d hl hn hl1 (fun ls1 hl1 => K hT H locs ls1 hl1 hH)
theorem j_iinc {i : Nat} {n : Int} {x v : Int32} {lv1 : List (Nat × Value)} (E : XE X cc own nL fr lo) (d : decode cc pc = .ok (.iinc i n, 3)) (q : Nat) (h : lv[q]? = some (i, .int x)) (hv : x + Int32.ofInt n = v) (hn : i < nL) (hl1 : (i, Value.int v) :: lv.filter (fun q => !(q.1 == i) && !(q.1 + 1 == i && q.2.category == 2)) = lv1) (K : JF X o nL (pc + 3) lv1 st σ T) : JF X o nL pc lv st σ T := by
  obtain ⟨p, l, e, R, s, m, args, below, meth, c, ⟨D, Am, cy, z, ad⟩, A0, Q, cells, slots⟩ := X
  obtain ⟨hx, hb, hml, hown, hts, hK, hA, hAz, hz, hG, hfr, hlo, hcl, hsl⟩ := E
  intro hT H locs ls hl hH
  exact lv_iinc (k := q) hx hb d hl h hv hn hl1 (fun ls1 hl1 => K hT H locs ls1 hl1 hH)
theorem j_iadd {x y : Int32} (E : XE X cc own nL fr lo) (d : decode cc pc = .ok (.iadd, 1)) (K : JF X o nL (pc + 1) lv (.int (x + y) :: st) σ T) : JF X o nL pc lv (.int y :: .int x :: st) σ T := by
  obtain ⟨p, l, e, R, s, m, args, below, meth, c, ⟨D, Am, cy, z, ad⟩, A0, Q, cells, slots⟩ := X
  obtain ⟨hx, hb, hml, hown, hts, hK, hA, hAz, hz, hG, hfr, hlo, hcl, hsl⟩ := E
  intro hT H locs ls hl hH
  exact lv_iadd hx hb d (K hT H locs ls hl hH)
theorem j_isub {x y : Int32} (E : XE X cc own nL fr lo) (d : decode cc pc = .ok (.isub, 1)) (K : JF X o nL (pc + 1) lv (.int (x - y) :: st) σ T) : JF X o nL pc lv (.int y :: .int x :: st) σ T := by
  obtain ⟨p, l, e, R, s, m, args, below, meth, c, ⟨D, Am, cy, z, ad⟩, A0, Q, cells, slots⟩ := X
  obtain ⟨hx, hb, hml, hown, hts, hK, hA, hAz, hz, hG, hfr, hlo, hcl, hsl⟩ := E
  intro hT H locs ls hl hH
  exact lv_isub hx hb d (K hT H locs ls hl hH)
theorem j_imul {x y : Int32} (E : XE X cc own nL fr lo) (d : decode cc pc = .ok (.imul, 1)) (K : JF X o nL (pc + 1) lv (.int (x * y) :: st) σ T) : JF X o nL pc lv (.int y :: .int x :: st) σ T := by
  obtain ⟨p, l, e, R, s, m, args, below, meth, c, ⟨D, Am, cy, z, ad⟩, A0, Q, cells, slots⟩ := X
  obtain ⟨hx, hb, hml, hown, hts, hK, hA, hAz, hz, hG, hfr, hlo, hcl, hsl⟩ := E
  intro hT H locs ls hl hH
  exact lv_imul hx hb d (K hT H locs ls hl hH)
theorem j_iand {x y : Int32} (E : XE X cc own nL fr lo) (d : decode cc pc = .ok (.iand, 1)) (K : JF X o nL (pc + 1) lv (.int (x &&& y) :: st) σ T) : JF X o nL pc lv (.int y :: .int x :: st) σ T := by
  obtain ⟨p, l, e, R, s, m, args, below, meth, c, ⟨D, Am, cy, z, ad⟩, A0, Q, cells, slots⟩ := X
  obtain ⟨hx, hb, hml, hown, hts, hK, hA, hAz, hz, hG, hfr, hlo, hcl, hsl⟩ := E
  intro hT H locs ls hl hH
  exact lv_iand hx hb d (K hT H locs ls hl hH)
theorem j_ior {x y : Int32} (E : XE X cc own nL fr lo) (d : decode cc pc = .ok (.ior, 1)) (K : JF X o nL (pc + 1) lv (.int (x ||| y) :: st) σ T) : JF X o nL pc lv (.int y :: .int x :: st) σ T := by
  obtain ⟨p, l, e, R, s, m, args, below, meth, c, ⟨D, Am, cy, z, ad⟩, A0, Q, cells, slots⟩ := X
  obtain ⟨hx, hb, hml, hown, hts, hK, hA, hAz, hz, hG, hfr, hlo, hcl, hsl⟩ := E
  intro hT H locs ls hl hH
  exact lv_ior hx hb d (K hT H locs ls hl hH)
theorem j_ishl {x y : Int32} (E : XE X cc own nL fr lo) (d : decode cc pc = .ok (.ishl, 1)) (K : JF X o nL (pc + 1) lv (.int (x <<< (y &&& 31)) :: st) σ T) : JF X o nL pc lv (.int y :: .int x :: st) σ T := by
  obtain ⟨p, l, e, R, s, m, args, below, meth, c, ⟨D, Am, cy, z, ad⟩, A0, Q, cells, slots⟩ := X
  obtain ⟨hx, hb, hml, hown, hts, hK, hA, hAz, hz, hG, hfr, hlo, hcl, hsl⟩ := E
  intro hT H locs ls hl hH
  exact lv_ishl hx hb d (K hT H locs ls hl hH)
theorem j_ishr {x y : Int32} (E : XE X cc own nL fr lo) (d : decode cc pc = .ok (.ishr, 1)) (K : JF X o nL (pc + 1) lv (.int (x >>> (y &&& 31)) :: st) σ T) : JF X o nL pc lv (.int y :: .int x :: st) σ T := by
  obtain ⟨p, l, e, R, s, m, args, below, meth, c, ⟨D, Am, cy, z, ad⟩, A0, Q, cells, slots⟩ := X
  obtain ⟨hx, hb, hml, hown, hts, hK, hA, hAz, hz, hG, hfr, hlo, hcl, hsl⟩ := E
  intro hT H locs ls hl hH
  exact lv_ishr hx hb d (K hT H locs ls hl hH)
theorem j_ladd {x y : Int64} (E : XE X cc own nL fr lo) (d : decode cc pc = .ok (.ladd, 1)) (K : JF X o nL (pc + 1) lv (.long (x + y) :: st) σ T) : JF X o nL pc lv (.long y :: .long x :: st) σ T := by
  obtain ⟨p, l, e, R, s, m, args, below, meth, c, ⟨D, Am, cy, z, ad⟩, A0, Q, cells, slots⟩ := X
  obtain ⟨hx, hb, hml, hown, hts, hK, hA, hAz, hz, hG, hfr, hlo, hcl, hsl⟩ := E
  intro hT H locs ls hl hH
  exact lv_ladd hx hb d (K hT H locs ls hl hH)
theorem j_lsub {x y : Int64} (E : XE X cc own nL fr lo) (d : decode cc pc = .ok (.lsub, 1)) (K : JF X o nL (pc + 1) lv (.long (x - y) :: st) σ T) : JF X o nL pc lv (.long y :: .long x :: st) σ T := by
  obtain ⟨p, l, e, R, s, m, args, below, meth, c, ⟨D, Am, cy, z, ad⟩, A0, Q, cells, slots⟩ := X
  obtain ⟨hx, hb, hml, hown, hts, hK, hA, hAz, hz, hG, hfr, hlo, hcl, hsl⟩ := E
  intro hT H locs ls hl hH
  exact lv_lsub hx hb d (K hT H locs ls hl hH)
theorem j_lmul {x y : Int64} (E : XE X cc own nL fr lo) (d : decode cc pc = .ok (.lmul, 1)) (K : JF X o nL (pc + 1) lv (.long (x * y) :: st) σ T) : JF X o nL pc lv (.long y :: .long x :: st) σ T := by
  obtain ⟨p, l, e, R, s, m, args, below, meth, c, ⟨D, Am, cy, z, ad⟩, A0, Q, cells, slots⟩ := X
  obtain ⟨hx, hb, hml, hown, hts, hK, hA, hAz, hz, hG, hfr, hlo, hcl, hsl⟩ := E
  intro hT H locs ls hl hH
  exact lv_lmul hx hb d (K hT H locs ls hl hH)
theorem j_i2l {x : Int32} (E : XE X cc own nL fr lo) (d : decode cc pc = .ok (.i2l, 1)) (K : JF X o nL (pc + 1) lv (.long x.toInt64 :: st) σ T) : JF X o nL pc lv (.int x :: st) σ T := by
  obtain ⟨p, l, e, R, s, m, args, below, meth, c, ⟨D, Am, cy, z, ad⟩, A0, Q, cells, slots⟩ := X
  obtain ⟨hx, hb, hml, hown, hts, hK, hA, hAz, hz, hG, hfr, hlo, hcl, hsl⟩ := E
  intro hT H locs ls hl hH
  exact lv_i2l hx hb d rfl (K hT H locs ls hl hH)
theorem j_i2c {x : Int32} (E : XE X cc own nL fr lo) (d : decode cc pc = .ok (.i2c, 1)) (K : JF X o nL (pc + 1) lv (.int (x.toUInt32 % 65536).toInt32 :: st) σ T) : JF X o nL pc lv (.int x :: st) σ T := by
  obtain ⟨p, l, e, R, s, m, args, below, meth, c, ⟨D, Am, cy, z, ad⟩, A0, Q, cells, slots⟩ := X
  obtain ⟨hx, hb, hml, hown, hts, hK, hA, hAz, hz, hG, hfr, hlo, hcl, hsl⟩ := E
  intro hT H locs ls hl hH
  exact lv_i2c hx hb d rfl (K hT H locs ls hl hH)
theorem j_lcmp {x y : Int64} (E : XE X cc own nL fr lo) (d : decode cc pc = .ok (.lcmp, 1)) (K : JF X o nL (pc + 1) lv (.int (lg_cmp x y) :: st) σ T) : JF X o nL pc lv (.long y :: .long x :: st) σ T := by
  obtain ⟨p, l, e, R, s, m, args, below, meth, c, ⟨D, Am, cy, z, ad⟩, A0, Q, cells, slots⟩ := X
  obtain ⟨hx, hb, hml, hown, hts, hK, hA, hAz, hz, hG, hfr, hlo, hcl, hsl⟩ := E
  intro hT H locs ls hl hH
  exact W.lcmp hx hb d (K hT H locs ls hl hH)
theorem j_dup {v : Value} (hc : v.category = 1) (E : XE X cc own nL fr lo) (d : decode cc pc = .ok (.dup, 1)) (K : JF X o nL (pc + 1) lv (v :: v :: st) σ T) : JF X o nL pc lv (v :: st) σ T := by
  obtain ⟨p, l, e, R, s, m, args, below, meth, c, ⟨D, Am, cy, z, ad⟩, A0, Q, cells, slots⟩ := X
  obtain ⟨hx, hb, hml, hown, hts, hK, hA, hAz, hz, hG, hfr, hlo, hcl, hsl⟩ := E
  intro hT H locs ls hl hH
  exact lv_dup hx hb d hc (K hT H locs ls hl hH)
theorem j_dup2 {v w : Value} (hc : v.category = 1) (hc2 : w.category = 1) (E : XE X cc own nL fr lo) (d : decode cc pc = .ok (.dup2, 1)) (K : JF X o nL (pc + 1) lv (v :: w :: v :: w :: st) σ T) : JF X o nL pc lv (v :: w :: st) σ T := by
  obtain ⟨p, l, e, R, s, m, args, below, meth, c, ⟨D, Am, cy, z, ad⟩, A0, Q, cells, slots⟩ := X
  obtain ⟨hx, hb, hml, hown, hts, hK, hA, hAz, hz, hG, hfr, hlo, hcl, hsl⟩ := E
  intro hT H locs ls hl hH
  exact lv_dup2_11 hx hb d hc hc2 (K hT H locs ls hl hH)
theorem j_pop {v : Value} (hc : v.category = 1) (E : XE X cc own nL fr lo) (d : decode cc pc = .ok (.pop, 1)) (K : JF X o nL (pc + 1) lv (st) σ T) : JF X o nL pc lv (v :: st) σ T := by
  obtain ⟨p, l, e, R, s, m, args, below, meth, c, ⟨D, Am, cy, z, ad⟩, A0, Q, cells, slots⟩ := X
  obtain ⟨hx, hb, hml, hown, hts, hK, hA, hAz, hz, hG, hfr, hlo, hcl, hsl⟩ := E
  intro hT H locs ls hl hH
  exact lv_pop hx hb d hc (K hT H locs ls hl hH)
theorem j_idiv {x y : Int32} (E : XE X cc own nL fr lo) (d : decode cc pc = .ok (.idiv, 1)) (K : JF X o nL (pc + 1) lv (.int (x / y) :: st) σ T) : JF X o nL pc lv (.int y :: .int x :: st) σ (gd (!decide (y = 0)) T) := by
  refine JF.gd (fun hg => ?_)
  obtain ⟨p, l, e, R, s, m, args, below, meth, c, ⟨D, Am, cy, z, ad⟩, A0, Q, cells, slots⟩ := X
  obtain ⟨hx, hb, hml, hown, hts, hK, hA, hAz, hz, hG, hfr, hlo, hcl, hsl⟩ := E
  intro hT H locs ls hl hH
  exact lv_idiv hx hb d (by simpa using hg) (K hT H locs ls hl hH)
theorem j_irem {x y : Int32} (E : XE X cc own nL fr lo) (d : decode cc pc = .ok (.irem, 1)) (K : JF X o nL (pc + 1) lv (.int (x - x / y * y) :: st) σ T) : JF X o nL pc lv (.int y :: .int x :: st) σ (gd (!decide (y = 0)) T) := by
  refine JF.gd (fun hg => ?_)
  obtain ⟨p, l, e, R, s, m, args, below, meth, c, ⟨D, Am, cy, z, ad⟩, A0, Q, cells, slots⟩ := X
  obtain ⟨hx, hb, hml, hown, hts, hK, hA, hAz, hz, hG, hfr, hlo, hcl, hsl⟩ := E
  intro hT H locs ls hl hH
  exact lv_irem hx hb d (by simpa using hg) (K hT H locs ls hl hH)
theorem j_goto {off : Int} {tgt : Nat} (E : XE X cc own nL fr lo) (d : decode cc pc = .ok (.goto off, 3)) (ht : (pc : Int) + off = (tgt : Int)) (K : JF X o nL tgt lv st σ T) : JF X o nL pc lv st σ T := by
  obtain ⟨p, l, e, R, s, m, args, below, meth, c, ⟨D, Am, cy, z, ad⟩, A0, Q, cells, slots⟩ := X
  obtain ⟨hx, hb, hml, hown, hts, hK, hA, hAz, hz, hG, hfr, hlo, hcl, hsl⟩ := E
  intro hT H locs ls hl hH
  exact lv_goto hx hb d ht (K hT H locs ls hl hH)
theorem j_if_eq {x : Int32} {T1 T2 : Option XO} {off : Int} {tgt : Nat} (E : XE X cc own nL fr lo) (d : decode cc pc = .ok (.ifCond .eq off, 3)) (ht : (pc : Int) + off = (tgt : Int)) (K1 : JF X o nL tgt lv st σ T1) (K2 : JF X o nL (pc + 3) lv st σ T2) : JF X o nL pc lv (.int x :: st) σ (if x = 0 then T1 else T2) := by
  obtain ⟨p, l, e, R, s, m, args, below, meth, c, ⟨D, Am, cy, z, ad⟩, A0, Q, cells, slots⟩ := X
  obtain ⟨hx, hb, hml, hown, hts, hK, hA, hAz, hz, hG, hfr, hlo, hcl, hsl⟩ := E
  intro hT H locs ls hl hH
  refine lv_if_eq hx hb d ht (fun q => K1 (by rw [if_pos q] at hT; exact hT) H locs ls hl hH) (fun q => K2 (by rw [if_neg q] at hT; exact hT) H locs ls hl hH)
theorem j_if_ne {x : Int32} {T1 T2 : Option XO} {off : Int} {tgt : Nat} (E : XE X cc own nL fr lo) (d : decode cc pc = .ok (.ifCond .ne off, 3)) (ht : (pc : Int) + off = (tgt : Int)) (K1 : JF X o nL (pc + 3) lv st σ T1) (K2 : JF X o nL tgt lv st σ T2) : JF X o nL pc lv (.int x :: st) σ (if x = 0 then T1 else T2) := by
  obtain ⟨p, l, e, R, s, m, args, below, meth, c, ⟨D, Am, cy, z, ad⟩, A0, Q, cells, slots⟩ := X
  obtain ⟨hx, hb, hml, hown, hts, hK, hA, hAz, hz, hG, hfr, hlo, hcl, hsl⟩ := E
  intro hT H locs ls hl hH
  refine lv_if_ne hx hb d ht (fun q => K2 (by rw [if_neg q] at hT; exact hT) H locs ls hl hH) (fun q => K1 (by rw [if_pos q] at hT; exact hT) H locs ls hl hH)
theorem j_if_lt {x : Int32} {T1 T2 : Option XO} {off : Int} {tgt : Nat} (E : XE X cc own nL fr lo) (d : decode cc pc = .ok (.ifCond .lt off, 3)) (ht : (pc : Int) + off = (tgt : Int)) (K1 : JF X o nL tgt lv st σ T1) (K2 : JF X o nL (pc + 3) lv st σ T2) : JF X o nL pc lv (.int x :: st) σ (if x < 0 then T1 else T2) := by
  obtain ⟨p, l, e, R, s, m, args, below, meth, c, ⟨D, Am, cy, z, ad⟩, A0, Q, cells, slots⟩ := X
  obtain ⟨hx, hb, hml, hown, hts, hK, hA, hAz, hz, hG, hfr, hlo, hcl, hsl⟩ := E
  intro hT H locs ls hl hH
  refine lv_if_lt hx hb d ht (fun q => K1 (by rw [if_pos q] at hT; exact hT) H locs ls hl hH) (fun q => K2 (by rw [if_neg q] at hT; exact hT) H locs ls hl hH)
theorem j_if_ge {x : Int32} {T1 T2 : Option XO} {off : Int} {tgt : Nat} (E : XE X cc own nL fr lo) (d : decode cc pc = .ok (.ifCond .ge off, 3)) (ht : (pc : Int) + off = (tgt : Int)) (K1 : JF X o nL tgt lv st σ T1) (K2 : JF X o nL (pc + 3) lv st σ T2) : JF X o nL pc lv (.int x :: st) σ (if 0 ≤ x then T1 else T2) := by
  obtain ⟨p, l, e, R, s, m, args, below, meth, c, ⟨D, Am, cy, z, ad⟩, A0, Q, cells, slots⟩ := X
  obtain ⟨hx, hb, hml, hown, hts, hK, hA, hAz, hz, hG, hfr, hlo, hcl, hsl⟩ := E
  intro hT H locs ls hl hH
  refine lv_if_ge hx hb d ht (fun q => K1 (by rw [if_pos q] at hT; exact hT) H locs ls hl hH) (fun q => K2 (by rw [if_neg q] at hT; exact hT) H locs ls hl hH)
theorem j_if_gt {x : Int32} {T1 T2 : Option XO} {off : Int} {tgt : Nat} (E : XE X cc own nL fr lo) (d : decode cc pc = .ok (.ifCond .gt off, 3)) (ht : (pc : Int) + off = (tgt : Int)) (K1 : JF X o nL tgt lv st σ T1) (K2 : JF X o nL (pc + 3) lv st σ T2) : JF X o nL pc lv (.int x :: st) σ (if 0 < x then T1 else T2) := by
  obtain ⟨p, l, e, R, s, m, args, below, meth, c, ⟨D, Am, cy, z, ad⟩, A0, Q, cells, slots⟩ := X
  obtain ⟨hx, hb, hml, hown, hts, hK, hA, hAz, hz, hG, hfr, hlo, hcl, hsl⟩ := E
  intro hT H locs ls hl hH
  refine lv_if_gt hx hb d ht (fun q => K1 (by rw [if_pos q] at hT; exact hT) H locs ls hl hH) (fun q => K2 (by rw [if_neg q] at hT; exact hT) H locs ls hl hH)
theorem j_if_le {x : Int32} {T1 T2 : Option XO} {off : Int} {tgt : Nat} (E : XE X cc own nL fr lo) (d : decode cc pc = .ok (.ifCond .le off, 3)) (ht : (pc : Int) + off = (tgt : Int)) (K1 : JF X o nL tgt lv st σ T1) (K2 : JF X o nL (pc + 3) lv st σ T2) : JF X o nL pc lv (.int x :: st) σ (if x ≤ 0 then T1 else T2) := by
  obtain ⟨p, l, e, R, s, m, args, below, meth, c, ⟨D, Am, cy, z, ad⟩, A0, Q, cells, slots⟩ := X
  obtain ⟨hx, hb, hml, hown, hts, hK, hA, hAz, hz, hG, hfr, hlo, hcl, hsl⟩ := E
  intro hT H locs ls hl hH
  refine lv_if_le hx hb d ht (fun q => K1 (by rw [if_pos q] at hT; exact hT) H locs ls hl hH) (fun q => K2 (by rw [if_neg q] at hT; exact hT) H locs ls hl hH)
theorem j_icmp_eq {x y : Int32} {T1 T2 : Option XO} {off : Int} {tgt : Nat} (E : XE X cc own nL fr lo) (d : decode cc pc = .ok (.if_icmp .eq off, 3)) (ht : (pc : Int) + off = (tgt : Int)) (K1 : JF X o nL tgt lv st σ T1) (K2 : JF X o nL (pc + 3) lv st σ T2) : JF X o nL pc lv (.int y :: .int x :: st) σ (if x = y then T1 else T2) := by
  obtain ⟨p, l, e, R, s, m, args, below, meth, c, ⟨D, Am, cy, z, ad⟩, A0, Q, cells, slots⟩ := X
  obtain ⟨hx, hb, hml, hown, hts, hK, hA, hAz, hz, hG, hfr, hlo, hcl, hsl⟩ := E
  intro hT H locs ls hl hH
  refine lv_icmp_eq hx hb d ht (fun q => K1 (by rw [if_pos q] at hT; exact hT) H locs ls hl hH) (fun q => K2 (by rw [if_neg q] at hT; exact hT) H locs ls hl hH)
theorem j_icmp_ne {x y : Int32} {T1 T2 : Option XO} {off : Int} {tgt : Nat} (E : XE X cc own nL fr lo) (d : decode cc pc = .ok (.if_icmp .ne off, 3)) (ht : (pc : Int) + off = (tgt : Int)) (K1 : JF X o nL (pc + 3) lv st σ T1) (K2 : JF X o nL tgt lv st σ T2) : JF X o nL pc lv (.int y :: .int x :: st) σ (if x = y then T1 else T2) := by
  obtain ⟨p, l, e, R, s, m, args, below, meth, c, ⟨D, Am, cy, z, ad⟩, A0, Q, cells, slots⟩ := X
  obtain ⟨hx, hb, hml, hown, hts, hK, hA, hAz, hz, hG, hfr, hlo, hcl, hsl⟩ := E
  intro hT H locs ls hl hH
  refine lv_icmp_ne hx hb d ht (fun q => K2 (by rw [if_neg q] at hT; exact hT) H locs ls hl hH) (fun q => K1 (by rw [if_pos q] at hT; exact hT) H locs ls hl hH)
theorem j_icmp_lt {x y : Int32} {T1 T2 : Option XO} {off : Int} {tgt : Nat} (E : XE X cc own nL fr lo) (d : decode cc pc = .ok (.if_icmp .lt off, 3)) (ht : (pc : Int) + off = (tgt : Int)) (K1 : JF X o nL tgt lv st σ T1) (K2 : JF X o nL (pc + 3) lv st σ T2) : JF X o nL pc lv (.int y :: .int x :: st) σ (if x < y then T1 else T2) := by
  obtain ⟨p, l, e, R, s, m, args, below, meth, c, ⟨D, Am, cy, z, ad⟩, A0, Q, cells, slots⟩ := X
  obtain ⟨hx, hb, hml, hown, hts, hK, hA, hAz, hz, hG, hfr, hlo, hcl, hsl⟩ := E
  intro hT H locs ls hl hH
  refine lv_icmp_lt hx hb d ht (fun q => K1 (by rw [if_pos q] at hT; exact hT) H locs ls hl hH) (fun q => K2 (by rw [if_neg q] at hT; exact hT) H locs ls hl hH)
theorem j_icmp_ge {x y : Int32} {T1 T2 : Option XO} {off : Int} {tgt : Nat} (E : XE X cc own nL fr lo) (d : decode cc pc = .ok (.if_icmp .ge off, 3)) (ht : (pc : Int) + off = (tgt : Int)) (K1 : JF X o nL tgt lv st σ T1) (K2 : JF X o nL (pc + 3) lv st σ T2) : JF X o nL pc lv (.int y :: .int x :: st) σ (if y ≤ x then T1 else T2) := by
  obtain ⟨p, l, e, R, s, m, args, below, meth, c, ⟨D, Am, cy, z, ad⟩, A0, Q, cells, slots⟩ := X
  obtain ⟨hx, hb, hml, hown, hts, hK, hA, hAz, hz, hG, hfr, hlo, hcl, hsl⟩ := E
  intro hT H locs ls hl hH
  refine lv_icmp_ge hx hb d ht (fun q => K1 (by rw [if_pos q] at hT; exact hT) H locs ls hl hH) (fun q => K2 (by rw [if_neg q] at hT; exact hT) H locs ls hl hH)
theorem j_icmp_gt {x y : Int32} {T1 T2 : Option XO} {off : Int} {tgt : Nat} (E : XE X cc own nL fr lo) (d : decode cc pc = .ok (.if_icmp .gt off, 3)) (ht : (pc : Int) + off = (tgt : Int)) (K1 : JF X o nL tgt lv st σ T1) (K2 : JF X o nL (pc + 3) lv st σ T2) : JF X o nL pc lv (.int y :: .int x :: st) σ (if y < x then T1 else T2) := by
  obtain ⟨p, l, e, R, s, m, args, below, meth, c, ⟨D, Am, cy, z, ad⟩, A0, Q, cells, slots⟩ := X
  obtain ⟨hx, hb, hml, hown, hts, hK, hA, hAz, hz, hG, hfr, hlo, hcl, hsl⟩ := E
  intro hT H locs ls hl hH
  refine lv_icmp_gt hx hb d ht (fun q => K1 (by rw [if_pos q] at hT; exact hT) H locs ls hl hH) (fun q => K2 (by rw [if_neg q] at hT; exact hT) H locs ls hl hH)
theorem j_icmp_le {x y : Int32} {T1 T2 : Option XO} {off : Int} {tgt : Nat} (E : XE X cc own nL fr lo) (d : decode cc pc = .ok (.if_icmp .le off, 3)) (ht : (pc : Int) + off = (tgt : Int)) (K1 : JF X o nL tgt lv st σ T1) (K2 : JF X o nL (pc + 3) lv st σ T2) : JF X o nL pc lv (.int y :: .int x :: st) σ (if x ≤ y then T1 else T2) := by
  obtain ⟨p, l, e, R, s, m, args, below, meth, c, ⟨D, Am, cy, z, ad⟩, A0, Q, cells, slots⟩ := X
  obtain ⟨hx, hb, hml, hown, hts, hK, hA, hAz, hz, hG, hfr, hlo, hcl, hsl⟩ := E
  intro hT H locs ls hl hH
  refine lv_icmp_le hx hb d ht (fun q => K1 (by rw [if_pos q] at hT; exact hT) H locs ls hl hH) (fun q => K2 (by rw [if_neg q] at hT; exact hT) H locs ls hl hH)
theorem j_tabIn {dflt l0 h0 : Int} {offs : Array Int} {len : Nat} {x v : Int32} {off : Int} {tgt : Nat} (E : XE X cc own nL fr lo) (d : decode cc pc = .ok (.tableswitch dflt l0 h0 offs, len)) (hv : x = v) (h1 : ¬ v.toInt < l0) (h2 : ¬ h0 < v.toInt) (ho : offs[(v.toInt - l0).toNat]? = some off) (ht : (pc : Int) + off = (tgt : Int)) (K : JF X o nL tgt lv st σ T) : JF X o nL pc lv (.int x :: st) σ T := by
  subst hv
  obtain ⟨p, l, e, R, s, m, args, below, meth, c, ⟨D, Am, cy, z, ad⟩, A0, Q, cells, slots⟩ := X
  obtain ⟨hx, hb, hml, hown, hts, hK, hA, hAz, hz, hG, hfr, hlo, hcl, hsl⟩ := E
  intro hT H locs ls hl hH
  exact lv_tableIn hx hb d h1 h2 ho ht (K hT H locs ls hl hH)
theorem j_tabOut {dflt l0 h0 : Int} {offs : Array Int} {len : Nat} {x : Int32} {tgt : Nat} (E : XE X cc own nL fr lo) (d : decode cc pc = .ok (.tableswitch dflt l0 h0 offs, len)) (h : x.toInt < l0 ∨ h0 < x.toInt) (ht : (pc : Int) + dflt = (tgt : Int)) (K : JF X o nL tgt lv st σ T) : JF X o nL pc lv (.int x :: st) σ T := by
  obtain ⟨p, l, e, R, s, m, args, below, meth, c, ⟨D, Am, cy, z, ad⟩, A0, Q, cells, slots⟩ := X
  obtain ⟨hx, hb, hml, hown, hts, hK, hA, hAz, hz, hG, hfr, hlo, hcl, hsl⟩ := E
  intro hT H locs ls hl hH
  exact lv_tableOut hx hb d h ht (K hT H locs ls hl hH)
theorem j_get {C ref : String} {F : u_T} {N ci index i k : Nat} {fs : List (Option Nat)} {v : Value} (E : XE X cc own nL fr lo) (hin : ∀ w ∈ u_ws C F N, w ∈ xG) (hc : vwCl[ci]? = some (C, F, N)) (hs : shp i = (0, ci, fs)) (hk : k < N) (hlink : Cond.fieldLink own index ref (F k).2.1 (F k).2.2.1 ∈ xG) (hsame : (F k).1 = ref) (hv : (xflds (xa X) σ i fs)[k]? = some v) (d : decode cc pc = .ok (.getfield index, 3)) (K : JF X o nL (pc + 3) lv (v :: st) σ T) : JF X o nL pc lv (.ref (xa X i) :: st) σ T := by
  obtain ⟨p, l, e, R, s, m, args, below, meth, c, ⟨D, Am, cy, z, ad⟩, A0, Q, cells, slots⟩ := X
  obtain ⟨hx, hb, hml, hown, hts, hK, hA, hAz, hz, hG, hfr, hlo, hcl, hsl⟩ := E
  intro hT H locs ls hl hH
  exact va_get (D := D) (cl := vwCl) hx hb hts hin hown hK hH.1 i (xw_at hs (by decide)) hc k hk (hts _ hlink) (fun x h => by rw [← hsame]; exact h) hv d (K hT H locs ls hl hH)
theorem j_put {C ref : String} {F : u_T} {N ci index i k : Nat} {fs : List (Option Nat)} {v : Int32} {ty : FieldType} {σ1 : XS} (E : XE X cc own nL fr lo) (hin : ∀ w ∈ u_ws C F N, w ∈ xG) (ty0 : Nat → FieldType) (hty : ∀ k, k < N → parseFieldDescriptor (F k).2.2.1 = some (ty0 k)) (hnm : ∀ a, a < N → ∀ b, b < N → a ≠ b → (F a).2.1 ≠ (F b).2.1) (hc : vwCl[ci]? = some (C, F, N)) (hs : shp i = (0, ci, fs)) (hf : fs[k]? = some none) (hk : k < N) (hlink : Cond.fieldLink own index ref (F k).2.1 (F k).2.2.1 ∈ xG) (hsame : (F k).1 = ref) (hfin : (F k).2.2.2 = false) (hd : parseFieldDescriptor (F k).2.2.1 = some ty) (hn : narrow ty (.int v) = .int v) (hfit : fits ty (.int v) = true) (d : decode cc pc = .ok (.putfield index, 3)) (hσ : xUp σ i k v = σ1) (K : JF X o nL (pc + 3) lv st σ1 T) : JF X o nL pc lv (.int v :: .ref (xa X i) :: st) σ T := by
  subst hσ
  obtain ⟨p, l, e, R, s, m, args, below, meth, c, ⟨D, Am, cy, z, ad⟩, A0, Q, cells, slots⟩ := X
  obtain ⟨hx, hb, hml, hown, hts, hK, hA, hAz, hz, hG, hfr, hlo, hcl, hsl⟩ := E
  intro hT H locs ls hl hH
  refine va_put (D := D) (cl := vwCl) hx hb hts hin ty0 hty hnm hown hK hH.1 hH.2.1 hH.2.2 i (xw_at hs (by decide)) hc k hk (hts _ hlink) (fun x h => by rw [← hsame]; exact h) hfin hd hn hfit (by simp only [xflds, List.length_map, List.length_range]; exact (List.getElem?_eq_some_iff.mp hf).1) d (fun H1 locs1 hP hD hS => ?_)
  have e : (xw Am cy σ).set i (Am i, .inr (ci, (xflds Am σ i fs).set k (.int v))) = xw Am cy (xUp σ i k v) := xw_put (shp_lt hs (by decide)) (by rw [xcell, hs, xflds_set hf]; rfl)
  have hP : va_P D vwCl ((xw Am cy σ).set i (Am i, .inr (ci, (xflds Am σ i fs).set k (.int v)))) H1 := hP
  have hD : va_D A0 ((xw Am cy σ).set i (Am i, .inr (ci, (xflds Am σ i fs).set k (.int v)))) := hD
  rw [e] at hP hD
  exact K hT H1 locs1 ls hl ⟨hP, hD, hS⟩
theorem j_iald {a n : Nat} {fs : List (Option Nat)} {i : Int32} (E : XE X cc own nL fr lo) (hs : shp a = (1, n, fs)) (d : decode cc pc = .ok (.iaload, 1)) (K : JF X o nL (pc + 1) lv (.int (σ a i.toNatClampNeg) :: st) σ T) : JF X o nL pc lv (.int i :: .ref (xa X a) :: st) σ (gd (xin i n) T) := by
  refine JF.gd (fun hg => ?_)
  obtain ⟨p, l, e, R, s, m, args, below, meth, c, ⟨D, Am, cy, z, ad⟩, A0, Q, cells, slots⟩ := X
  obtain ⟨hx, hb, hml, hown, hts, hK, hA, hAz, hz, hG, hfr, hlo, hcl, hsl⟩ := E
  intro hT H locs ls hl hH
  exact va_iald (D := D) (cl := vwCl) (tys := xtys cy) (f := σ a) hx hb hK hH.1 a 0 (xw_at hs (by decide)) rfl (xin_ok hg) d (K hT H locs ls hl hH)
theorem j_cald {a n : Nat} {fs : List (Option Nat)} {i : Int32} (E : XE X cc own nL fr lo) (hs : shp a = (2, n, fs)) (d : decode cc pc = .ok (.caload, 1)) (K : JF X o nL (pc + 1) lv (.int (σ a i.toNatClampNeg) :: st) σ T) : JF X o nL pc lv (.int i :: .ref (xa X a) :: st) σ (gd (xin i n) T) := by
  refine JF.gd (fun hg => ?_)
  obtain ⟨p, l, e, R, s, m, args, below, meth, c, ⟨D, Am, cy, z, ad⟩, A0, Q, cells, slots⟩ := X
  obtain ⟨hx, hb, hml, hown, hts, hK, hA, hAz, hz, hG, hfr, hlo, hcl, hsl⟩ := E
  intro hT H locs ls hl hH
  exact va_cald (D := D) (cl := vwCl) (tys := xtys cy) (f := σ a) hx hb hK hH.1 a 1 (xw_at hs (by decide)) rfl (xin_ok hg) d (K hT H locs ls hl hH)
theorem j_zald {a n : Nat} {fs : List (Option Nat)} {i : Int32} (E : XE X cc own nL fr lo) (hs : shp a = (3, n, fs)) (d : decode cc pc = .ok (.baload, 1)) (K : JF X o nL (pc + 1) lv (.int (σ a i.toNatClampNeg) :: st) σ T) : JF X o nL pc lv (.int i :: .ref (xa X a) :: st) σ (gd (xin i n) T) := by
  refine JF.gd (fun hg => ?_)
  obtain ⟨p, l, e, R, s, m, args, below, meth, c, ⟨D, Am, cy, z, ad⟩, A0, Q, cells, slots⟩ := X
  obtain ⟨hx, hb, hml, hown, hts, hK, hA, hAz, hz, hG, hfr, hlo, hcl, hsl⟩ := E
  intro hT H locs ls hl hH
  exact va_zald (D := D) (cl := vwCl) (tys := xtys cy) (f := σ a) hx hb hK hH.1 a 2 (xw_at hs (by decide)) rfl (xin_ok hg) d (K hT H locs ls hl hH)
theorem j_iast {a n : Nat} {fs : List (Option Nat)} {i x : Int32} {σ1 : XS} (E : XE X cc own nL fr lo) (hs : shp a = (1, n, fs)) (d : decode cc pc = .ok (.iastore, 1)) (hσ : xUp σ a i.toNatClampNeg x = σ1) (K : JF X o nL (pc + 1) lv st σ1 T) : JF X o nL pc lv (.int x :: .int i :: .ref (xa X a) :: st) σ (gd (xin i n) T) := by
  subst hσ
  refine JF.gd (fun hg => ?_)
  obtain ⟨p, l, e, R, s, m, args, below, meth, c, ⟨D, Am, cy, z, ad⟩, A0, Q, cells, slots⟩ := X
  obtain ⟨hx, hb, hml, hown, hts, hK, hA, hAz, hz, hG, hfr, hlo, hcl, hsl⟩ := E
  intro hT H locs ls hl hH
  refine va_iast (D := D) (cl := vwCl) (tys := xtys cy) (f := σ a) hx hb hK hH.1 hH.2.1 hH.2.2 a 0 (xw_at hs (by decide)) rfl (xin_ok hg) d (fun H1 locs1 hP hD hS => ?_)
  have e : (xw Am cy σ).set a (Am a, .inl (cy 1, n, .inl (upd (σ a) i.toNatClampNeg x))) = xw Am cy (xUp σ a i.toNatClampNeg x) := xw_put (shp_lt hs (by decide)) (by rw [xcell, hs]; simp only [xcellOf, xUf_eq])
  have hP : va_P D vwCl ((xw Am cy σ).set a (Am a, .inl (cy 1, n, .inl (upd (σ a) i.toNatClampNeg x)))) H1 := hP
  have hD : va_D A0 ((xw Am cy σ).set a (Am a, .inl (cy 1, n, .inl (upd (σ a) i.toNatClampNeg x)))) := hD
  rw [e] at hP hD
  exact K hT H1 locs1 ls hl ⟨hP, hD, hS⟩
theorem j_cast {a n : Nat} {fs : List (Option Nat)} {i x : Int32} {σ1 : XS} (E : XE X cc own nL fr lo) (hs : shp a = (2, n, fs)) (d : decode cc pc = .ok (.castore, 1)) (hσ : xUp σ a i.toNatClampNeg (vp_nar .char x) = σ1) (K : JF X o nL (pc + 1) lv st σ1 T) : JF X o nL pc lv (.int x :: .int i :: .ref (xa X a) :: st) σ (gd (xin i n) T) := by
  subst hσ
  refine JF.gd (fun hg => ?_)
  obtain ⟨p, l, e, R, s, m, args, below, meth, c, ⟨D, Am, cy, z, ad⟩, A0, Q, cells, slots⟩ := X
  obtain ⟨hx, hb, hml, hown, hts, hK, hA, hAz, hz, hG, hfr, hlo, hcl, hsl⟩ := E
  intro hT H locs ls hl hH
  refine va_cast (D := D) (cl := vwCl) (tys := xtys cy) (f := σ a) hx hb hK hH.1 hH.2.1 hH.2.2 a 1 (xw_at hs (by decide)) rfl (xin_ok hg) d (fun H1 locs1 hP hD hS => ?_)
  have e : (xw Am cy σ).set a (Am a, .inl (cy 2, n, .inl (upd (σ a) i.toNatClampNeg (vp_nar .char x)))) = xw Am cy (xUp σ a i.toNatClampNeg (vp_nar .char x)) := xw_put (shp_lt hs (by decide)) (by rw [xcell, hs]; simp only [xcellOf, xUf_eq])
  have hP : va_P D vwCl ((xw Am cy σ).set a (Am a, .inl (cy 2, n, .inl (upd (σ a) i.toNatClampNeg (vp_nar .char x))))) H1 := hP
  have hD : va_D A0 ((xw Am cy σ).set a (Am a, .inl (cy 2, n, .inl (upd (σ a) i.toNatClampNeg (vp_nar .char x))))) := hD
  rw [e] at hP hD
  exact K hT H1 locs1 ls hl ⟨hP, hD, hS⟩
theorem j_zast {a n : Nat} {fs : List (Option Nat)} {i x : Int32} {σ1 : XS} (E : XE X cc own nL fr lo) (hs : shp a = (3, n, fs)) (d : decode cc pc = .ok (.bastore, 1)) (hσ : xUp σ a i.toNatClampNeg (vp_nar .boolean x) = σ1) (K : JF X o nL (pc + 1) lv st σ1 T) : JF X o nL pc lv (.int x :: .int i :: .ref (xa X a) :: st) σ (gd (xin i n) T) := by
  subst hσ
  refine JF.gd (fun hg => ?_)
  obtain ⟨p, l, e, R, s, m, args, below, meth, c, ⟨D, Am, cy, z, ad⟩, A0, Q, cells, slots⟩ := X
  obtain ⟨hx, hb, hml, hown, hts, hK, hA, hAz, hz, hG, hfr, hlo, hcl, hsl⟩ := E
  intro hT H locs ls hl hH
  refine va_zast (D := D) (cl := vwCl) (tys := xtys cy) (f := σ a) hx hb hK hH.1 hH.2.1 hH.2.2 a 2 (xw_at hs (by decide)) rfl (xin_ok hg) d (fun H1 locs1 hP hD hS => ?_)
  have e : (xw Am cy σ).set a (Am a, .inl (cy 3, n, .inl (upd (σ a) i.toNatClampNeg (vp_nar .boolean x)))) = xw Am cy (xUp σ a i.toNatClampNeg (vp_nar .boolean x)) := xw_put (shp_lt hs (by decide)) (by rw [xcell, hs]; simp only [xcellOf, xUf_eq])
  have hP : va_P D vwCl ((xw Am cy σ).set a (Am a, .inl (cy 3, n, .inl (upd (σ a) i.toNatClampNeg (vp_nar .boolean x))))) H1 := hP
  have hD : va_D A0 ((xw Am cy σ).set a (Am a, .inl (cy 3, n, .inl (upd (σ a) i.toNatClampNeg (vp_nar .boolean x))))) := hD
  rw [e] at hP hD
  exact K hT H1 locs1 ls hl ⟨hP, hD, hS⟩
theorem j_aald {a n b : Nat} {fs : List (Option Nat)} {i : Int32} (E : XE X cc own nL fr lo) (hs : shp a = (4, n, fs)) (hr : ∀ j, j < n → fs.getD j none = some (b + j)) (d : decode cc pc = .ok (.aaload, 1)) (K : xin i n = true → JF X o nL (pc + 1) lv (.ref (xa X (b + i.toNatClampNeg)) :: st) σ T) : JF X o nL pc lv (.int i :: .ref (xa X a) :: st) σ (gd (xin i n) T) := by
  refine JF.gd (fun hg => ?_)
  obtain ⟨p, l, e, R, s, m, args, below, meth, c, ⟨D, Am, cy, z, ad⟩, A0, Q, cells, slots⟩ := X
  obtain ⟨hx, hb, hml, hown, hts, hK, hA, hAz, hz, hG, hfr, hlo, hcl, hsl⟩ := E
  intro hT H locs ls hl hH
  have hin := xin_ok hg
  have hlt : i.toNatClampNeg < n := Nat.not_le.mp fun q => hin (Or.inr q)
  have hv : va_rf ((fs.getD i.toNatClampNeg none).map Am) = .ref (Am (b + i.toNatClampNeg)) := by rw [hr _ hlt]; rfl
  have hcell := hH.1 a _ (xw_at hs (by decide))
  refine W.aald (v := .ref (Am (b + i.toNatClampNeg))) (ty := .array .int) hx hb hcell ((hK.2 3 _ rfl).1 n (fun j => va_rf ((fs.getD j none).map Am))) rfl (fun q => by cases q) (by show ¬ (i < 0 ∨ (arrV _ _ _).slots.size ≤ _); rw [arrV_size]; exact hin) (by show (arrV _ _ _).slots[_]? = _; rw [arrV_read _ _ hlt, hv]) rfl rfl d (K hg hT H locs ls hl hH)
theorem j_alen {a n t : Nat} {fs : List (Option Nat)} {v : Int32} (E : XE X cc own nL fr lo) (hs : shp a = (t, n, fs)) (ht : t = 1) (hv : Int32.ofNat n = v) (d : decode cc pc = .ok (.arraylength, 1)) (K : JF X o nL (pc + 1) lv (.int v :: st) σ T) : JF X o nL pc lv (.ref (xa X a) :: st) σ T := by
  subst ht
  obtain ⟨p, l, e, R, s, m, args, below, meth, c, ⟨D, Am, cy, z, ad⟩, A0, Q, cells, slots⟩ := X
  obtain ⟨hx, hb, hml, hown, hts, hK, hA, hAz, hz, hG, hfr, hlo, hcl, hsl⟩ := E
  intro hT H locs ls hl hH
  exact va_alen (D := D) (cl := vwCl) (tys := xtys cy) (ty := .int) hx hb hK hH.1 a 0 (xw_at hs (by decide)) rfl hv d (K hT H locs ls hl hH)
theorem j_copy {index a b n0 n1 : Nat} {fs0 fs1 : List (Option Nat)} {sp dp n : Int32} {σ1 : XS} (E : XE X cc own nL fr lo) (h0 : shp a = (1, n0, fs0)) (h1 : shp b = (1, n1, fs1)) (hlink : Cond.methodLink own index arraycopyName ∈ xG) (hnat : Cond.native arraycopyName ∈ xG) (hstat : Cond.static arraycopyName ∈ xG) (hini : Cond.initialized "java/lang/System" ∈ xG) (g1 : ¬ sp < 0) (g2 : ¬ dp < 0) (g3 : ¬ n < 0) (g4 : sp.toNatClampNeg + n.toNatClampNeg ≤ n0) (g5 : dp.toNatClampNeg + n.toNatClampNeg ≤ n1) (hfr : 1 ≤ fr) (hlo : (st.map fun v => v.category).sum + (nativeFrameWords "java/lang/System" "arraycopy" 5 + 11) ≤ lo) (d : decode cc pc = .ok (.invokestatic index, 3)) (hσ : xUf σ b (va_cpy (σ a) (σ b) sp.toNatClampNeg dp.toNatClampNeg n.toNatClampNeg) = σ1) (K : JF X o nL (pc + 3) lv st σ1 T) : JF X o nL pc lv (.int n :: .int dp :: .ref (xa X b) :: .int sp :: .ref (xa X a) :: st) σ T := by
  subst hσ
  obtain ⟨p, l, e, R, s, m, args, below, meth, c, ⟨D, Am, cy, z, ad⟩, A0, Q, cells, slots⟩ := X
  obtain ⟨hx, hb, hml, hown, hts, hK, hA, hAz, hz, hG, hfr, hlo, hcl, hsl⟩ := E
  intro hT H locs ls hl hH
  refine va_copyi (D := D) (cl := vwCl) (tys := xtys cy) (f := σ a) (g := σ b) hx hb (hml.trans hl.1.symm) hown (hts _ hlink) (hts _ hnat) (hts _ hstat) (hts _ hini) hK hH.1 hH.2.1 hH.2.2 a b 0 0 (xw_at h0 (by decide)) (xw_at h1 (by decide)) rfl rfl rfl g1 g2 g3 g4 g5 (fun _ _ => rfl) (by omega) (by omega) d (fun H1 locs1 hP hD hS => ?_)
  have e : ∀ f : Nat → Int32, (xw Am cy σ).set b (Am b, .inl (cy 1, n1, .inl f)) = xw Am cy (xUf σ b f) := fun f => xw_put (shp_lt h1 (by decide)) (by rw [xcell, h1]; simp only [xcellOf, xUf_eq])
  rw [e] at hP hD
  exact K hT H1 locs1 ls hl ⟨hP, hD, hS⟩
theorem j_max {index : Nat} {x y : Int32} (E : XE X cc own nL fr lo) (hlink : Cond.methodLink own index Lib.Math.max.name ∈ xG) (hstat : Cond.static Lib.Math.max.name ∈ xG) (hini : Cond.initialized "java/lang/Math" ∈ xG) (hcode : Cond.code Lib.Math.max.name Lib.Math.max.code 2 (some .int) ∈ xG) (hfr : 1 ≤ fr) (hlo : (st.map fun v => v.category).sum + 13 ≤ lo) (d : decode cc pc = .ok (.invokestatic index, 3)) (K : JF X o nL (pc + 3) lv (.int (if x < y then y else x) :: st) σ T) : JF X o nL pc lv (.int y :: .int x :: st) σ T := by
  obtain ⟨p, l, e, R, s, m, args, below, meth, c, ⟨D, Am, cy, z, ad⟩, A0, Q, cells, slots⟩ := X
  obtain ⟨hx, hb, hml, hown, hts, hK, hA, hAz, hz, hG, hfr, hlo, hcl, hsl⟩ := E
  intro hT H locs ls hl hH
  exact va_mmax hx hb (hml.trans hl.1.symm) hown (hts _ hlink) (hts _ hstat) (hts _ hini) (hts _ hcode) (by omega) (by omega) hcl hsl d (K hT H locs ls hl hH)
theorem j_min {index : Nat} {x y : Int32} (E : XE X cc own nL fr lo) (hlink : Cond.methodLink own index Lib.Math.min.name ∈ xG) (hstat : Cond.static Lib.Math.min.name ∈ xG) (hini : Cond.initialized "java/lang/Math" ∈ xG) (hcode : Cond.code Lib.Math.min.name Lib.Math.min.code 2 (some .int) ∈ xG) (hfr : 1 ≤ fr) (hlo : (st.map fun v => v.category).sum + 13 ≤ lo) (d : decode cc pc = .ok (.invokestatic index, 3)) (K : JF X o nL (pc + 3) lv (.int (if y < x then y else x) :: st) σ T) : JF X o nL pc lv (.int y :: .int x :: st) σ T := by
  obtain ⟨p, l, e, R, s, m, args, below, meth, c, ⟨D, Am, cy, z, ad⟩, A0, Q, cells, slots⟩ := X
  obtain ⟨hx, hb, hml, hown, hts, hK, hA, hAz, hz, hG, hfr, hlo, hcl, hsl⟩ := E
  intro hT H locs ls hl hH
  exact va_mmin hx hb (hml.trans hl.1.symm) hown (hts _ hlink) (hts _ hstat) (hts _ hini) (hts _ hcode) (by omega) (by omega) hcl hsl d (K hT H locs ls hl hH)
theorem j_ldc2 {index : Nat} {v : Int64} (E : XE X cc own nL fr lo) (hc : Cond.constantLong own index v ∈ xG) (d : decode cc pc = .ok (.ldc2_w index, 3)) (K : JF X o nL (pc + 3) lv (.long v :: st) σ T) : JF X o nL pc lv st σ T := by
  obtain ⟨p, l, e, R, s, m, args, below, meth, c, ⟨D, Am, cy, z, ad⟩, A0, Q, cells, slots⟩ := X
  obtain ⟨hx, hb, hml, hown, hts, hK, hA, hAz, hz, hG, hfr, hlo, hcl, hsl⟩ := E
  intro hT H locs ls hl hH
  exact lv_ldc2 hx hb hown (hts _ hc) d (K hT H locs ls hl hH)
theorem j_iret (E : XE X cc own nL fr lo) (R : XI X o cc) {r : Int32} (d : decode cc pc = .ok (.ireturn, 1)) : JF X o nL pc lv [.int r] σ (some (r, σ)) := by
  intro hT H locs ls hl hH
  cases hT
  exact R pc H locs ls d hH
theorem j_vret (E : XE X cc own nL fr lo) (R : XV X o cc) (d : decode cc pc = .ok (.return_, 1)) : JF X o nL pc lv [] σ (some (0, σ)) := by
  intro hT H locs ls hl hH
  cases hT
  exact R pc H locs ls d hH
theorem j_aret (E : XE X cc own nL fr lo) (R : XR X o cc) {k : Nat} (hk : k < 20) (d : decode cc pc = .ok (.areturn, 1)) : JF X o nL pc lv [.ref (xk X k)] σ (some (nI k, σ)) := by
  intro hT H locs ls hl hH
  cases hT
  exact R pc H locs ls k hk rfl d hH
end JR
/-! CONTRACTS over the memory, and calls -/
theorem xgood : ∀ w ∈ xG, ((w.onTables && w.keeps) = true ∨ ∃ ty, w = .arrayClass ty) := fun w h => good_of_word (List.mem_filter.mp h).2
theorem xGI {y : MethodName} {b : ByteArray} {n : Nat} {ret : Option FieldType} (h : Cond.code y b n ret ∈ xG) : GoodIn xG (Cond.code y b n ret :: xG) := by
  intro w hw
  rcases List.mem_cons.mp hw with e | e
  · subst e; exact ⟨h, xgood _ h⟩
  · exact ⟨e, xgood _ e⟩
abbrev xRm (fr lo : Nat) : Room := { frames := fr, cells := 0, slots := 0, locals := lo }
def xPre (D : va_G) (Am : Nat → Nat) (cy : Nat → ClassId) (z : Nat) (ad : Nat → Nat) (σ : XS) (sz : Nat) (U : State) : Prop := U.heap.size = sz ∧ z ≤ sz ∧ va_P D vwCl (xw Am cy σ) U.heap ∧ va_K D vwCl (xtys cy) U ∧ va_D (fun q => z ≤ q) (xw Am cy σ) ∧ XG z ad U U.heap
def xPost (D : va_G) (Am : Nat → Nat) (cy : Nat → ClassId) (A : Nat → Prop) (u : XS) (t : State) : Prop := va_P D vwCl (xw Am cy u) t.heap ∧ va_K D vwCl (xtys cy) t ∧ va_D A (xw Am cy u)
theorem xPre.blind {D : va_G} {Am : Nat → Nat} {cy : Nat → ClassId} {z : Nat} {ad : Nat → Nat} {σ : XS} {sz : Nat} {av : List Value} : FrameBlind (va_Pc av (xPre D Am cy z ad σ sz)) := fun a U g mk q => by
  obtain ⟨q0, q1, qz, qP, qK, qD, qG⟩ := q
  exact ⟨q0, q1, qz, qP, va_K.moved (u := U) (U := U.calling g mk a) (Vm.Alike.refl U.vm) qK, qD, XG.same (u := U) (U := U.calling g mk a) rfl qG⟩
def CtI (y : MethodName) (b : ByteArray) (n : Nat) (ret : Option FieldType) (fr lo : Nat) (av : (Nat → Nat) → (Nat → Nat) → List Value) (σ : XS) (o : XO) : Prop := ∀ (l : Launch) (D : va_G) (Am : Nat → Nat) (cy : Nat → ClassId) (z : Nat) (ad : Nat → Nat) (sz : Nat), Met l y (Cond.code y b n ret :: xG) (xRm fr lo) (va_Pc (av Am ad) (xPre D Am cy z ad σ sz)) (va_Qi (fun (r : Int32) (u : XS) => r = o.1 ∧ u = o.2) (xPost D Am cy (va_A (xw Am cy σ) sz)) (va_A (xw Am cy σ) sz)) 0 0 (va_A (xw Am cy σ) sz)
def CtV (y : MethodName) (b : ByteArray) (n : Nat) (ret : Option FieldType) (fr lo : Nat) (av : (Nat → Nat) → (Nat → Nat) → List Value) (σ : XS) (o : XO) : Prop := ∀ (l : Launch) (D : va_G) (Am : Nat → Nat) (cy : Nat → ClassId) (z : Nat) (ad : Nat → Nat) (sz : Nat), Met l y (Cond.code y b n ret :: xG) (xRm fr lo) (va_Pc (av Am ad) (xPre D Am cy z ad σ sz)) (va_Qv (fun (u : XS) => u = o.2) (xPost D Am cy (va_A (xw Am cy σ) sz)) (va_A (xw Am cy σ) sz)) 0 0 (va_A (xw Am cy σ) sz)
def CtR (y : MethodName) (b : ByteArray) (n : Nat) (ret : Option FieldType) (fr lo : Nat) (av : (Nat → Nat) → (Nat → Nat) → List Value) (σ : XS) (o : XO) : Prop := ∀ (l : Launch) (D : va_G) (Am : Nat → Nat) (cy : Nat → ClassId) (z : Nat) (ad : Nat → Nat) (sz : Nat), Met l y (Cond.code y b n ret :: xG) (xRm fr lo) (va_Pc (av Am ad) (xPre D Am cy z ad σ sz)) (va_Qr (fun (u : XS) => u = o.2) (fun u a t => (∃ k : Nat, k < 20 ∧ o.1 = nI k ∧ a = ad k) ∧ xPost D Am cy (va_A (xw Am cy σ) sz) u t) (va_A (xw Am cy σ) sz)) 0 0 (va_A (xw Am cy σ) sz)
section CT
variable {y : MethodName} {b : ByteArray} {n fr lo : Nat} {ret : Option FieldType} {av : (Nat → Nat) → (Nat → Nat) → List Value} {σ : XS} {o : XO}
/-- the end of a method whose answer is narrower than a number -/
def XZ (X : XC) (o : XO) (cc : ByteArray) (ty : FieldType) : Prop := ∀ (pc : Nat) (H : Heap) (locs : List Loc) (ls : Array Slot), narrow ty (.int o.1) = .int o.1 → decode cc pc = .ok (.ireturn, 1) → xHold X o.2 H locs → xW X H locs pc ls [.int o.1]
theorem ct_enter {l : Launch} {D : va_G} {Am : Nat → Nat} {cy : Nat → ClassId} {z : Nat} {ad : Nat → Nat} {sz : Nat} {Qc : Array Value → State → Outcome → State → Prop} (hy : plainName y.cls = true) (hlv : (lg_sl (av Am ad)).length ≤ n)
    (body : ∀ X : XC, XE X b y.cls n fr lo → (∀ (H : Heap) (locs : List Loc) (g : JFrame), True) → (X.2.2.2.2.2.2.2.2.2.2.1 = (D, Am, cy, z, ad)) → (∀ pc H locs ls st, (∀ p l e R s m args below meth c cells slots, X = (p, l, e, R, s, m, args, below, meth, c, (D, Am, cy, z, ad), va_A (xw Am cy σ) sz, MQ below Qc args s 0 0 (va_A (xw Am cy σ) sz), cells, slots) → p.tables.exec = Jvm.exec → c.code = b → meth.sig.returnType = ret → meth.locks = false → va_K D vwCl (xtys cy) s → W p l e R s m args below meth c H locs 0 0 (MQ below Qc args s 0 0 (va_A (xw Am cy σ) sz)) (F0 m pc ls st)) → xW X H locs pc ls st) → ∀ ls : Array Slot, lv_has ls n (lv_args 0 (av Am ad)) → ∀ H : Heap, xHold X σ H [] → xW X H [] 0 ls []) :
    Met l y (Cond.code y b n ret :: xG) (xRm fr lo) (va_Pc (av Am ad) (xPre D Am cy z ad σ sz)) Qc 0 0 (va_A (xw Am cy σ) sz) := by
  refine Met.ofW (cc := b) (maxL := n) (ret := ret) hy rfl ?_
  intro p e s m args below meth c s₁ B hml hv
  obtain ⟨rfl, hsz, hz, hP, hK, hD0, hG⟩ := hv
  have hx := B.exec
  have hb := B.bytes
  have hr := B.returns
  have hts := atoms_spec (ws := Cond.code y b n ret :: xG) B.pre
  have hown : s.vm.findClass y.cls = some m.cls := findClass_of_methodNamed B.named
  have hlocks := B.notSynchronized
  subst hsz
  have hl := lv_entry (av Am ad) (n := n) hlv
  rw [lg_entry_eq]
  generalize (lg_sl (av Am ad) ++ List.replicate (n - (lg_sl (av Am ad)).length) Slot.unset).toArray = ls at hl ⊢
  have hAz : ∀ q, va_A (xw Am cy σ) s.heap.size q → z ≤ q := by
    intro q hq
    rcases hq with ⟨k, e, hk⟩ | hq
    · exact hD0.2 k _ hk
    · exact Nat.le_trans hz hq
  have := body (p, l, e, xRm fr lo, s, m, (av Am ad).toArray, below, meth, c, (D, Am, cy, z, ad), va_A (xw Am cy σ) s.heap.size, MQ below Qc (av Am ad).toArray s 0 0 (va_A (xw Am cy σ) s.heap.size), 0, 0)
    ⟨hx, hb, hml, hown, fun w hw => hts w (List.mem_cons_of_mem _ hw), hK, fun q hq => Or.inr hq, hAz, hz, hG, rfl, rfl, Nat.le_refl _, Nat.le_refl _⟩
    (fun _ _ _ => trivial) rfl (fun pc H locs ls st h => h p l e (xRm fr lo) s m _ below meth c 0 0 rfl hx hb hr hlocks hK) ls hl s.heap ⟨hP, hD0.self, va_S.rf⟩
  exact this
theorem ct_int (hy : plainName y.cls = true) (hlv : ∀ Am ad, (lg_sl (av Am ad)).length ≤ n) (body : ∀ X : XC, XE X b y.cls n fr lo → XI X o b → JF X o n 0 (lv_args 0 (av (xa X) (xk X))) [] σ (some o)) : CtI y b n (some .int) fr lo av σ o := by
  intro l D Am cy z ad sz
  refine ct_enter hy (hlv Am ad) (fun X E _ hX fin ls hl H hH => ?_)
  have h1 : xa X = Am := by unfold xa; rw [hX]
  have h2 : xk X = ad := by unfold xk; rw [hX]
  have hb := body X E (fun pc H locs ls hd hH => fin pc H locs ls _ (fun p l e R s m args below meth c cells slots eX hx hc hr hlocks hK => ?_))
  · rw [h1, h2] at hb
    exact hb rfl H [] ls hl hH
  · subst eX
    obtain ⟨gP, gD, gS⟩ := hH
    exact W.iret (v := o.1) hx hc hr (fun t ht hW => ⟨⟨o.1, o.2, rfl, ⟨rfl, rfl⟩, by rw [ht]; exact gP, va_K.moved hW.alike hK, gD⟩, gS.F ht⟩) gS.2.2 hd hlocks
theorem ct_z {ty : FieldType} (hy : plainName y.cls = true) (hlv : ∀ Am ad, (lg_sl (av Am ad)).length ≤ n) (body : ∀ X : XC, XE X b y.cls n fr lo → XZ X o b ty → JF X o n 0 (lv_args 0 (av (xa X) (xk X))) [] σ (some o)) : CtI y b n (some ty) fr lo av σ o := by
  intro l D Am cy z ad sz
  refine ct_enter hy (hlv Am ad) (fun X E _ hX fin ls hl H hH => ?_)
  have h1 : xa X = Am := by unfold xa; rw [hX]
  have h2 : xk X = ad := by unfold xk; rw [hX]
  have hb := body X E (fun pc H locs ls hnn hd hH => fin pc H locs ls _ (fun p l e R s m args below meth c cells slots eX hx hc hr hlocks hK => ?_))
  · rw [h1, h2] at hb
    exact hb rfl H [] ls hl hH
  · subst eX
    obtain ⟨gP, gD, gS⟩ := hH
    exact W.zret (v := o.1) hx hc hr hnn (fun t ht hW => ⟨⟨o.1, o.2, rfl, ⟨rfl, rfl⟩, by rw [ht]; exact gP, va_K.moved hW.alike hK, gD⟩, gS.F ht⟩) gS.2.2 hd hlocks
theorem ct_void (hy : plainName y.cls = true) (hlv : ∀ Am ad, (lg_sl (av Am ad)).length ≤ n) (body : ∀ X : XC, XE X b y.cls n fr lo → XV X o b → JF X o n 0 (lv_args 0 (av (xa X) (xk X))) [] σ (some o)) : CtV y b n none fr lo av σ o := by
  intro l D Am cy z ad sz
  refine ct_enter hy (hlv Am ad) (fun X E _ hX fin ls hl H hH => ?_)
  have h1 : xa X = Am := by unfold xa; rw [hX]
  have h2 : xk X = ad := by unfold xk; rw [hX]
  have hb := body X E (fun pc H locs ls hd hH => fin pc H locs ls _ (fun p l e R s m args below meth c cells slots eX hx hc hr hlocks hK => ?_))
  · rw [h1, h2] at hb
    exact hb rfl H [] ls hl hH
  · subst eX
    obtain ⟨gP, gD, gS⟩ := hH
    exact W.vret hx hc hr (fun t ht hW => ⟨⟨o.2, rfl, rfl, by rw [ht]; exact gP, va_K.moved hW.alike hK, gD⟩, gS.F ht⟩) gS.2.2 hd hlocks
theorem ct_ref {C : String} (hy : plainName y.cls = true) (hlv : ∀ Am ad, (lg_sl (av Am ad)).length ≤ n) (body : ∀ X : XC, XE X b y.cls n fr lo → XR X o b → JF X o n 0 (lv_args 0 (av (xa X) (xk X))) [] σ (some o)) : CtR y b n (some (.object C)) fr lo av σ o := by
  intro l D Am cy z ad sz
  refine ct_enter hy (hlv Am ad) (fun X E _ hX fin ls hl H hH => ?_)
  have h1 : xa X = Am := by unfold xa; rw [hX]
  have h2 : xk X = ad := by unfold xk; rw [hX]
  have hb := body X E (fun pc H locs ls k hk2 hk hd hH => fin pc H locs ls _ (fun p l e R s m args below meth c cells slots eX hx hc hr hlocks hK => ?_))
  · rw [h1, h2] at hb
    exact hb rfl H [] ls hl hH
  · subst eX
    obtain ⟨gP, gD, gS⟩ := hH
    exact W.aret (v := .ref (ad k)) hx hc hr (Or.inl ⟨C, rfl⟩) (Or.inr ⟨_, rfl⟩) (fun t ht hW => ⟨⟨o.2, ad k, rfl, rfl, ⟨k, hk2, hk, rfl⟩, by rw [ht]; exact gP, va_K.moved hW.alike hK, gD⟩, gS.F ht⟩) gS.2.2 hd hlocks
end CT
/-- what a call wants of the tables: of an own method, of a static one -/
def XMV (y : MethodName) (C : String) (b : ByteArray) (n : Nat) (ret : Option FieldType) (k : Nat) : Prop := Cond.instanceMethod y ∈ xG ∧ Cond.selects C y y ∈ xG ∧ Cond.initialized y.cls ∈ xG ∧ Cond.code y b n ret ∈ xG ∧ (y.cls ≠ "java/lang/invoke/MethodHandle" ∧ y.cls ≠ "java/lang/invoke/VarHandle" ∧ (parseMethodDescriptor y.desc).map (fun d => d.parameters.length) = some k)
def XMS (y : MethodName) (b : ByteArray) (n : Nat) (ret : Option FieldType) (k : Nat) : Prop := Cond.static y ∈ xG ∧ Cond.initialized y.cls ∈ xG ∧ Cond.code y b n ret ∈ xG ∧ (y.cls ≠ "java/lang/invoke/MethodHandle" ∧ y.cls ≠ "java/lang/invoke/VarHandle" ∧ (parseMethodDescriptor y.desc).map (fun d => d.parameters.length) = some k)
section CL
variable {X : XC} {o : XO} {cc : ByteArray} {own : String} {nL fr lo : Nat} {pc : Nat} {lv : List (Nat × Value)} {st st0 : List Value} {σ σ1 : XS} {T : Option XO}
variable {y : MethodName} {b : ByteArray} {n fr1 lo1 k index : Nat} {ret : Option FieldType} {av : (Nat → Nat) → (Nat → Nat) → List Value} {r : Int32}
theorem JF.bind {A : Option XO} {kk : XO → Option XO} (K : ∀ (r : Int32) (σ1 : XS), A = some (r, σ1) → JF X o nL pc lv st σ (kk (r, σ1))) : JF X o nL pc lv st σ (A.bind kk) := by
  intro hT
  cases hA : A with
  | none => rw [hA] at hT; cases hT
  | some q =>
    rw [hA] at hT
    exact K q.1 q.2 hA hT
theorem xsub {p : Program} {l : Launch} {e : Env} {R : Room} {s : State} {m : MethodId} {args : Array Value} {below : List Frame} {meth : Method} {c : Code} {D : va_G} {Am : Nat → Nat} {cy : Nat → ClassId} {z : Nat} {ad : Nat → Nat} {A0 : Nat → Prop} {Q : State → Prop} {cells slots : Nat} (E : XE (p, l, e, R, s, m, args, below, meth, c, (D, Am, cy, z, ad), A0, Q, cells, slots) cc own nL fr lo) {H : Heap} {locs : List Loc} (hH : xHold (p, l, e, R, s, m, args, below, meth, c, (D, Am, cy, z, ad), A0, Q, cells, slots) σ H locs) :
    (∀ q, va_A (xw Am cy σ) H.size q → A0 q) ∧ (∀ U : State, U.heap = H → s.WarmedH U.vm → xPre D Am cy z ad σ H.size U) := by
  obtain ⟨hx, hb, hml, hown, hts, hK, hA, hAz, hz, hG, hfr, hlo, hcl, hsl⟩ := E
  obtain ⟨hP, hD, hS⟩ := hH
  refine ⟨fun q h => ?_, fun U hU hW => ⟨by rw [hU], Nat.le_trans hz hS.1, by rw [hU]; exact hP, va_K.moved hW.alike hK, hD.weaken (fun k q _ h => hAz _ h), ?_⟩⟩
  · rcases h with ⟨k, e, hk⟩ | h
    · exact hD.2 k _ hk
    · exact hA q (Nat.le_trans hS.1 h)
  · rw [hU]
    exact XG.warm hW (hG.kept (fun a h1 h2 => hS.2.1 a h1 (fun q => h2 (hAz a q))))
theorem j_callVi {C : String} {F : u_T} {N ci i : Nat} {fs : List (Option Nat)} (E : XE X cc own nL fr lo) (hC : CtI y b n ret fr1 lo1 av σ (r, σ1)) (M : XMV y C b n ret k) (hc : vwCl[ci]? = some (C, F, N)) (hs : shp i = (0, ci, fs)) (hl : Cond.methodLink own index y ∈ xG) (As : List Value) (hav : av (xa X) (xk X) = .ref (xa X i) :: As) (hk : As.length = k) (hst : st0 = As.reverse ++ .ref (xa X i) :: st) (hf : fr1 + 1 ≤ fr ∧ 8 + (n + 11) + lo1 ≤ lo) (hW : (st.map fun v => v.category).sum ≤ 8) (d : decode cc pc = .ok (.invokevirtual index, 3)) (K : JF X o nL (pc + 3) lv (.int r :: st) σ1 T) : JF X o nL pc lv st0 σ T := by
  obtain ⟨p, l, e, R, s, m, args, below, meth, c, ⟨D, Am, cy, z, ad⟩, A0, Q, cells, slots⟩ := X
  have E' := E
  obtain ⟨hx, hb, hml, hown, hts, hK, hA, hAz, hz, hG, hfr, hlo, hcl, hsl⟩ := E
  obtain ⟨M1, M2, M3, M4, M5⟩ := M
  intro hT H locs ls hl1 hH
  obtain ⟨hF, hpre⟩ := xsub E' hH
  have hav : av Am ad = .ref (Am i) :: As := hav
  have hcw : CallW R s args own C index y b n ret (Cond.code y b n ret :: xG) (xRm fr1 lo1) 0 0 k := ⟨callB_of k hts (xGI M4) rfl rfl rfl (hts _ M3) (hts _ hl) M5 ⟨by rw [hfr]; exact hf.1, by rw [hlo]; exact hf.2⟩, hts _ M1, hts _ M2⟩
  have hrun := va_runV (As := As) (rest := st) (g := F0 m pc ls st0) (b := Am i) (H := H) (locs := locs) (cells := cells) (slots := slots) (below := below) (meth := meth) (e := e) ⟨hx, hb, hml, hown, hts⟩ (hC l D Am cy z ad H.size) hcw ⟨xPre.blind, va_recv hK hH.1 hc (xw_at hs (by decide)), fun U hU hW => ⟨by rw [hav], hpre U hU hW⟩⟩ rfl hk hl1.1 hst (lv_room (m := m) (pc := pc) (ls := ls) (rest := st0) hW) d ⟨hcl, hsl⟩
  refine va_calli hrun hH.2.2 (fun q _ h => hF q h) hF (fun r1 u t H1 locs1 ht hvm hw hB hz1 hk1 hS => ?_)
  obtain ⟨e1, e2⟩ := hw
  subst e1 e2
  obtain ⟨gP, gK, gD⟩ := hB
  rw [ht] at gP
  exact K hT H1 locs1 ls hl1 ⟨gP, gD.weaken (fun k q _ h => hF _ h), hS⟩
theorem j_callVv {C : String} {F : u_T} {N ci i : Nat} {fs : List (Option Nat)} (E : XE X cc own nL fr lo) (hC : CtV y b n ret fr1 lo1 av σ (r, σ1)) (M : XMV y C b n ret k) (hc : vwCl[ci]? = some (C, F, N)) (hs : shp i = (0, ci, fs)) (hl : Cond.methodLink own index y ∈ xG) (As : List Value) (hav : av (xa X) (xk X) = .ref (xa X i) :: As) (hk : As.length = k) (hst : st0 = As.reverse ++ .ref (xa X i) :: st) (hf : fr1 + 1 ≤ fr ∧ 8 + (n + 11) + lo1 ≤ lo) (hW : (st.map fun v => v.category).sum ≤ 8) (d : decode cc pc = .ok (.invokevirtual index, 3)) (K : JF X o nL (pc + 3) lv st σ1 T) : JF X o nL pc lv st0 σ T := by
  obtain ⟨p, l, e, R, s, m, args, below, meth, c, ⟨D, Am, cy, z, ad⟩, A0, Q, cells, slots⟩ := X
  have E' := E
  obtain ⟨hx, hb, hml, hown, hts, hK, hA, hAz, hz, hG, hfr, hlo, hcl, hsl⟩ := E
  obtain ⟨M1, M2, M3, M4, M5⟩ := M
  intro hT H locs ls hl1 hH
  obtain ⟨hF, hpre⟩ := xsub E' hH
  have hav : av Am ad = .ref (Am i) :: As := hav
  have hcw : CallW R s args own C index y b n ret (Cond.code y b n ret :: xG) (xRm fr1 lo1) 0 0 k := ⟨callB_of k hts (xGI M4) rfl rfl rfl (hts _ M3) (hts _ hl) M5 ⟨by rw [hfr]; exact hf.1, by rw [hlo]; exact hf.2⟩, hts _ M1, hts _ M2⟩
  have hrun := va_runV (As := As) (rest := st) (g := F0 m pc ls st0) (b := Am i) (H := H) (locs := locs) (cells := cells) (slots := slots) (below := below) (meth := meth) (e := e) ⟨hx, hb, hml, hown, hts⟩ (hC l D Am cy z ad H.size) hcw ⟨xPre.blind, va_recv hK hH.1 hc (xw_at hs (by decide)), fun U hU hW => ⟨by rw [hav], hpre U hU hW⟩⟩ rfl hk hl1.1 hst (lv_room (m := m) (pc := pc) (ls := ls) (rest := st0) hW) d ⟨hcl, hsl⟩
  refine va_callv hrun hH.2.2 (fun q _ h => hF q h) hF (fun u t H1 locs1 ht hvm hw hB hz1 hk1 hS => ?_)
  have hw : u = σ1 := hw
  subst hw
  obtain ⟨gP, gK, gD⟩ := hB
  rw [ht] at gP
  exact K hT H1 locs1 ls hl1 ⟨gP, gD.weaken (fun k q _ h => hF _ h), hS⟩
theorem j_callSi (E : XE X cc own nL fr lo) (hC : CtI y b n ret fr1 lo1 av σ (r, σ1)) (M : XMS y b n ret k) (hl : Cond.methodLink own index y ∈ xG) (As : List Value) (hav : av (xa X) (xk X) = As) (hk : As.length = k) (hst : st0 = As.reverse ++ st) (hf : fr1 + 1 ≤ fr ∧ 8 + (n + 11) + lo1 ≤ lo) (hW : (st.map fun v => v.category).sum ≤ 8) (d : decode cc pc = .ok (.invokestatic index, 3)) (K : JF X o nL (pc + 3) lv (.int r :: st) σ1 T) : JF X o nL pc lv st0 σ T := by
  obtain ⟨p, l, e, R, s, m, args, below, meth, c, ⟨D, Am, cy, z, ad⟩, A0, Q, cells, slots⟩ := X
  have E' := E
  obtain ⟨hx, hb, hml, hown, hts, hK, hA, hAz, hz, hG, hfr, hlo, hcl, hsl⟩ := E
  obtain ⟨M1, M3, M4, M5⟩ := M
  intro hT H locs ls hl1 hH
  obtain ⟨hF, hpre⟩ := xsub E' hH
  have hav : av Am ad = As := hav
  have hcw : CallB R s args own index y b n ret (Cond.code y b n ret :: xG) (xRm fr1 lo1) 0 0 k ∧ (Cond.static y).before args s = true := ⟨callB_of k hts (xGI M4) rfl rfl rfl (hts _ M3) (hts _ hl) M5 ⟨by rw [hfr]; exact hf.1, by rw [hlo]; exact hf.2⟩, hts _ M1⟩
  have hrun := va_runS (As := As) (rest := st) (g := F0 m pc ls st0) (H := H) (locs := locs) (cells := cells) (slots := slots) (below := below) (meth := meth) (e := e) ⟨hx, hb, hml, hown, hts⟩ (hC l D Am cy z ad H.size) hcw ⟨xPre.blind, fun U hU hW => ⟨by rw [hav], hpre U hU hW⟩⟩ rfl hk hl1.1 hst (lv_room (m := m) (pc := pc) (ls := ls) (rest := st0) hW) d ⟨hcl, hsl⟩
  refine va_calli hrun hH.2.2 (fun q _ h => hF q h) hF (fun r1 u t H1 locs1 ht hvm hw hB hz1 hk1 hS => ?_)
  obtain ⟨e1, e2⟩ := hw
  subst e1 e2
  obtain ⟨gP, gK, gD⟩ := hB
  rw [ht] at gP
  exact K hT H1 locs1 ls hl1 ⟨gP, gD.weaken (fun k q _ h => hF _ h), hS⟩
/-- a static method of a nest mate -/
theorem j_callSiN (E : XE X cc own nL fr lo) (hC : CtI y b n ret fr1 lo1 av σ (r, σ1)) (M : XMS y b n ret k) (hl : (own, index, y) ∈ xNestL) (As : List Value) (hav : av (xa X) (xk X) = As) (hk : As.length = k) (hst : st0 = As.reverse ++ st) (hf : fr1 + 1 ≤ fr ∧ 8 + (n + 11) + lo1 ≤ lo) (hW : (st.map fun v => v.category).sum ≤ 8) (d : decode cc pc = .ok (.invokestatic index, 3)) (K : JF X o nL (pc + 3) lv (.int r :: st) σ1 T) : JF X o nL pc lv st0 σ T := by
  obtain ⟨p, l, e, R, s, m, args, below, meth, c, ⟨D, Am, cy, z, ad⟩, A0, Q, cells, slots⟩ := X
  have E' := E
  obtain ⟨hx, hb, hml, hown, hts, hK, hA, hAz, hz, hG, hfr, hlo, hcl, hsl⟩ := E
  obtain ⟨M1, M3, M4, M5⟩ := M
  intro hT H locs ls hl1 hH
  obtain ⟨hF, hpre⟩ := xsub E' hH
  have hav : av Am ad = As := hav
  have hcw : va_CN R s args own index y "VerseCustoms" b n ret (Cond.code y b n ret :: xG) (xRm fr1 lo1) 0 0 k ∧ (Cond.static y).before args s = true ∧ True := ⟨va_cnB k hts (xGI M4) rfl rfl rfl (hG.2.2.2.2.2.2.2.2 _ hl) (hts _ M3) M5 ⟨by rw [hfr]; exact hf.1, by rw [hlo]; exact hf.2⟩, hts _ M1, trivial⟩
  have hrun := va_runSN (As := As) (rest := st) (g := F0 m pc ls st0) (H := H) (locs := locs) (cells := cells) (slots := slots) (below := below) (meth := meth) (e := e) ⟨hx, hb, hml, hown, hts⟩ (hC l D Am cy z ad H.size) hcw ⟨xPre.blind, fun U hU hW => ⟨by rw [hav], hpre U hU hW⟩⟩ rfl hk hl1.1 hst (lv_room (m := m) (pc := pc) (ls := ls) (rest := st0) hW) d ⟨hcl, hsl⟩
  refine va_calli hrun hH.2.2 (fun q _ h => hF q h) hF (fun r1 u t H1 locs1 ht hvm hw hB hz1 hk1 hS => ?_)
  obtain ⟨e1, e2⟩ := hw
  subst e1 e2
  obtain ⟨gP, gK, gD⟩ := hB
  rw [ht] at gP
  exact K hT H1 locs1 ls hl1 ⟨gP, gD.weaken (fun k q _ h => hF _ h), hS⟩
theorem j_callSv (E : XE X cc own nL fr lo) (hC : CtV y b n ret fr1 lo1 av σ (r, σ1)) (M : XMS y b n ret k) (hl : Cond.methodLink own index y ∈ xG) (As : List Value) (hav : av (xa X) (xk X) = As) (hk : As.length = k) (hst : st0 = As.reverse ++ st) (hf : fr1 + 1 ≤ fr ∧ 8 + (n + 11) + lo1 ≤ lo) (hW : (st.map fun v => v.category).sum ≤ 8) (d : decode cc pc = .ok (.invokestatic index, 3)) (K : JF X o nL (pc + 3) lv st σ1 T) : JF X o nL pc lv st0 σ T := by
  obtain ⟨p, l, e, R, s, m, args, below, meth, c, ⟨D, Am, cy, z, ad⟩, A0, Q, cells, slots⟩ := X
  have E' := E
  obtain ⟨hx, hb, hml, hown, hts, hK, hA, hAz, hz, hG, hfr, hlo, hcl, hsl⟩ := E
  obtain ⟨M1, M3, M4, M5⟩ := M
  intro hT H locs ls hl1 hH
  obtain ⟨hF, hpre⟩ := xsub E' hH
  have hav : av Am ad = As := hav
  have hcw : CallB R s args own index y b n ret (Cond.code y b n ret :: xG) (xRm fr1 lo1) 0 0 k ∧ (Cond.static y).before args s = true := ⟨callB_of k hts (xGI M4) rfl rfl rfl (hts _ M3) (hts _ hl) M5 ⟨by rw [hfr]; exact hf.1, by rw [hlo]; exact hf.2⟩, hts _ M1⟩
  have hrun := va_runS (As := As) (rest := st) (g := F0 m pc ls st0) (H := H) (locs := locs) (cells := cells) (slots := slots) (below := below) (meth := meth) (e := e) ⟨hx, hb, hml, hown, hts⟩ (hC l D Am cy z ad H.size) hcw ⟨xPre.blind, fun U hU hW => ⟨by rw [hav], hpre U hU hW⟩⟩ rfl hk hl1.1 hst (lv_room (m := m) (pc := pc) (ls := ls) (rest := st0) hW) d ⟨hcl, hsl⟩
  refine va_callv hrun hH.2.2 (fun q _ h => hF q h) hF (fun u t H1 locs1 ht hvm hw hB hz1 hk1 hS => ?_)
  have hw : u = σ1 := hw
  subst hw
  obtain ⟨gP, gK, gD⟩ := hB
  rw [ht] at gP
  exact K hT H1 locs1 ls hl1 ⟨gP, gD.weaken (fun k q _ h => hF _ h), hS⟩
/-- a static call whose answer is a text -/
theorem j_callSr (E : XE X cc own nL fr lo) (hC : CtR y b n ret fr1 lo1 av σ (r, σ1)) (M : XMS y b n ret k) (hl : Cond.methodLink own index y ∈ xG) (As : List Value) (hav : av (xa X) (xk X) = As) (hk : As.length = k) (hst : st0 = As.reverse ++ st) (hf : fr1 + 1 ≤ fr ∧ 8 + (n + 11) + lo1 ≤ lo) (hW : (st.map fun v => v.category).sum ≤ 8) (d : decode cc pc = .ok (.invokestatic index, 3)) (K : JF X o nL (pc + 3) lv (.ref (xk X r.toNatClampNeg) :: st) σ1 T) : JF X o nL pc lv st0 σ T := by
  obtain ⟨p, l, e, R, s, m, args, below, meth, c, ⟨D, Am, cy, z, ad⟩, A0, Q, cells, slots⟩ := X
  have E' := E
  obtain ⟨hx, hb, hml, hown, hts, hK, hA, hAz, hz, hG, hfr, hlo, hcl, hsl⟩ := E
  obtain ⟨M1, M3, M4, M5⟩ := M
  intro hT H locs ls hl1 hH
  obtain ⟨hF, hpre⟩ := xsub E' hH
  have hav : av Am ad = As := hav
  have hcw : CallB R s args own index y b n ret (Cond.code y b n ret :: xG) (xRm fr1 lo1) 0 0 k ∧ (Cond.static y).before args s = true := ⟨callB_of k hts (xGI M4) rfl rfl rfl (hts _ M3) (hts _ hl) M5 ⟨by rw [hfr]; exact hf.1, by rw [hlo]; exact hf.2⟩, hts _ M1⟩
  have hrun := va_runS (As := As) (rest := st) (g := F0 m pc ls st0) (H := H) (locs := locs) (cells := cells) (slots := slots) (below := below) (meth := meth) (e := e) ⟨hx, hb, hml, hown, hts⟩ (hC l D Am cy z ad H.size) hcw ⟨xPre.blind, fun U hU hW => ⟨by rw [hav], hpre U hU hW⟩⟩ rfl hk hl1.1 hst (lv_room (m := m) (pc := pc) (ls := ls) (rest := st0) hW) d ⟨hcl, hsl⟩
  refine va_callr hrun hH.2.2 (fun q _ h => hF q h) hF (fun u ra t H1 locs1 ht hvm hw hB hz1 hk1 hS => ?_)
  have hw : u = σ1 := hw
  subst hw
  obtain ⟨⟨q, hq2, hq, rfl⟩, gP, gK, gD⟩ := hB
  rw [ht] at gP
  have eq : r.toNatClampNeg = q := by rw [show r = nI q from hq, nI_clamp (by omega)]
  have K : JF (p, l, e, R, s, m, args, below, meth, c, (D, Am, cy, z, ad), A0, Q, cells, slots) o nL (pc + 3) lv (.ref (ad r.toNatClampNeg) :: st) u T := K
  rw [eq] at K
  exact K hT H1 locs1 ls hl1 ⟨gP, gD.weaken (fun k q _ h => hF _ h), hS⟩
theorem j_zret {ty : FieldType} (E : XE X cc own nL fr lo) (R : XZ X o cc ty) {r : Int32} (hn : narrow ty (.int r) = .int r) (d : decode cc pc = .ok (.ireturn, 1)) : JF X o nL pc lv [.int r] σ (some (r, σ)) := by
  intro hT H locs ls hl hH
  cases hT
  exact R pc H locs ls hn d hH
theorem j_zretg (E : XE X cc own nL fr lo) (R : XZ X o cc .boolean) {r : Int32} (d : decode cc pc = .ok (.ireturn, 1)) : JF X o nL pc lv [.int r] σ (gd (decide (r = 0) || decide (r = 1)) (some (r, σ))) := by
  refine JF.gd (fun hg => ?_)
  refine j_zret E R ?_ d
  rw [Bool.or_eq_true, decide_eq_true_eq, decide_eq_true_eq] at hg
  rcases hg with h | h <;> rw [h] <;> rfl
/-- a text of the constant pool -/
theorem j_ldcS {index k : Nat} (E : XE X cc "VerseCustoms$Text" nL fr lo) (hi : index = 126 + 2 * k) (hk : k < 20) (d : decode cc pc = .ok (.ldc index, 2)) (K : JF X o nL (pc + 2) lv (.ref (xk X k) :: st) σ T) : JF X o nL pc lv st σ T := by
  subst hi
  obtain ⟨p, l, e, R, s, m, args, below, meth, c, ⟨D, Am, cy, z, ad⟩, A0, Q, cells, slots⟩ := X
  obtain ⟨hx, hb, hml, hown, hts, hK, hA, hAz, hz, hG, hfr, hlo, hcl, hsl⟩ := E
  intro hT H locs ls hl hH
  exact va_ldcS hx hb hown (hG.2.2.2.2.2.2.2.1 k hk) d (K hT H locs ls hl hH)
end CL
section XX
variable {X : XC} {o : XO} {cc : ByteArray} {own : String} {nL fr lo : Nat} {pc : Nat} {lv : List (Nat × Value)} {st : List Value} {σ : XS} {T : Option XO}
def xB (A : Option XO) (k : Int32 → XS → Option XO) : Option XO := match A with
  | some q => k q.1 q.2
  | none => none
theorem JF.xb {A : Option XO} {kk : Int32 → XS → Option XO} (K : ∀ (r : Int32) (σ1 : XS), A = some (r, σ1) → JF X o nL pc lv st σ (kk r σ1)) : JF X o nL pc lv st σ (xB A kk) := by
  cases A with
  | none => exact JF.none
  | some q => exact K q.1 q.2 rfl
/-- a row of numbers, its length; a line: an object and its row behind it -/
def xlen (r : Nat) : Nat := (shp r).2.1
def xRow (r : Nat) : Prop := shp r = (1, xlen r, [])
def xLine (L : Nat) : Prop := shp L = (0, 4, [some (L + 1), none]) ∧ shp (L + 1) = (1, 6, [])
theorem xrg {r n : Nat} (h : shp r = (1, n, [])) : xRow r := by
  unfold xRow xlen
  rw [h]
theorem xrl {L : Nat} (h : xLine L) : xRow (L + 1) := xrg h.2
theorem xne {x v : Int32} (h : ¬ x = v) {k : Int} (hk : v.toInt = k) : x.toInt ≠ k := fun e => h (Int32.toInt_inj.mp (e.trans hk.symm))
theorem x01 {r : Int32} (hg : (decide (r = 0) || decide (r = 1)) = true) : narrow .boolean (.int r) = .int r := by
  rw [Bool.or_eq_true, decide_eq_true_eq, decide_eq_true_eq] at hg
  rcases hg with h | h <;> rw [h] <;> rfl
theorem xin_lt {i : Int32} {n : Nat} (h : xin i n = true) : i.toNatClampNeg < n := Nat.not_le.mp fun q => xin_ok h (Or.inr q)
/-- the two constant rows -/
def xkrow (w : Nat) : List Int32 := if w = 200 then [3, 7, 9, 25] else [3, 5, 11]
theorem j_gets200 {index : Nat} (E : XE X cc RX9 nL fr lo) (hl : Cond.fieldLink RX9 index "VerseCustoms" "WORD_IS" "[I" ∈ xG) (d : decode cc pc = .ok (.getstatic index, 3)) (K : JF X o nL (pc + 3) lv (.ref (xk X 200) :: st) σ T) : JF X o nL pc lv st σ T := by
  obtain ⟨p, l, e, R, s, m, args, below, meth, c, ⟨D, Am, cy, z, ad⟩, A0, Q, cells, slots⟩ := X
  obtain ⟨hx, hb, hml, hown, hts, hK, hA, hAz, hz, hG, hfr, hlo, hcl, hsl⟩ := E
  intro hT H locs ls hl1 hH
  exact va_gets hx hb (hG.2.1.narrow hAz) hH.2.2 hown (hts _ hl) (fun _ h => h) d (K hT H locs ls hl1 hH)
theorem j_gets201 {index : Nat} (E : XE X cc RX9 nL fr lo) (hl : Cond.fieldLink RX9 index "VerseCustoms" "CLERK_IS" "[I" ∈ xG) (d : decode cc pc = .ok (.getstatic index, 3)) (K : JF X o nL (pc + 3) lv (.ref (xk X 201) :: st) σ T) : JF X o nL pc lv st σ T := by
  obtain ⟨p, l, e, R, s, m, args, below, meth, c, ⟨D, Am, cy, z, ad⟩, A0, Q, cells, slots⟩ := X
  obtain ⟨hx, hb, hml, hown, hts, hK, hA, hAz, hz, hG, hfr, hlo, hcl, hsl⟩ := E
  intro hT H locs ls hl1 hH
  exact va_gets hx hb (hG.2.2.2.1.narrow hAz) hH.2.2 hown (hts _ hl) (fun _ h => h) d (K hT H locs ls hl1 hH)
theorem xkT {p : Program} {l : Launch} {e : Env} {R : Room} {s : State} {m : MethodId} {args : Array Value} {below : List Frame} {meth : Method} {c : Code} {D : va_G} {Am : Nat → Nat} {cy : Nat → ClassId} {z : Nat} {ad : Nat → Nat} {A0 : Nat → Prop} {Q : State → Prop} {cells slots : Nat} (E : XE (p, l, e, R, s, m, args, below, meth, c, (D, Am, cy, z, ad), A0, Q, cells, slots) cc own nL fr lo) {w : Nat} (hw : w = 200 ∨ w = 201) : va_T .int (ad w) (xkrow w).length (fun j => .int ((xkrow w).getD j 0)) A0 s s.heap := by
  obtain ⟨hx, hb, hml, hown, hts, hK, hA, hAz, hz, hG, hfr, hlo, hcl, hsl⟩ := E
  rcases hw with rfl | rfl
  · exact hG.2.2.1.narrow hAz
  · exact hG.2.2.2.2.1.narrow hAz
theorem j_klen {w : Nat} {v : Int32} (E : XE X cc own nL fr lo) (hw : w = 200 ∨ w = 201) (hv : nI (xkrow w).length = v) (d : decode cc pc = .ok (.arraylength, 1)) (K : JF X o nL (pc + 1) lv (.int v :: st) σ T) : JF X o nL pc lv (.ref (xk X w) :: st) σ T := by
  obtain ⟨p, l, e, R, s, m, args, below, meth, c, ⟨D, Am, cy, z, ad⟩, A0, Q, cells, slots⟩ := X
  have hT0 := xkT E hw
  obtain ⟨hx, hb, hml, hown, hts, hK, hA, hAz, hz, hG, hfr, hlo, hcl, hsl⟩ := E
  intro hT H locs ls hl1 hH
  exact va_tlen hx hb hT0 hH.2.2 hv d (K hT H locs ls hl1 hH)
theorem j_kald {w : Nat} {i : Int32} (E : XE X cc own nL fr lo) (hw : w = 200 ∨ w = 201) (d : decode cc pc = .ok (.iaload, 1)) (K : JF X o nL (pc + 1) lv (.int ((xkrow w).getD i.toNatClampNeg 0) :: st) σ T) : JF X o nL pc lv (.int i :: .ref (xk X w) :: st) σ (gd (xin i (xkrow w).length) T) := by
  refine JF.gd (fun hg => ?_)
  obtain ⟨p, l, e, R, s, m, args, below, meth, c, ⟨D, Am, cy, z, ad⟩, A0, Q, cells, slots⟩ := X
  have hT0 := xkT E hw
  obtain ⟨hx, hb, hml, hown, hts, hK, hA, hAz, hz, hG, hfr, hlo, hcl, hsl⟩ := E
  intro hT H locs ls hl1 hH
  exact va_ti hx hb hT0 hH.2.2 (xin_ok hg) rfl d (K hT H locs ls hl1 hH)
end XX

