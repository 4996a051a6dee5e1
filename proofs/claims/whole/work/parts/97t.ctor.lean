/-! CONSTRUCTORS: worlds as lists that grow behind; a nested constructor's cells are the list's end -/
theorem xaoa {ty : FieldType} {u U : State} (hvm : u.vm.Alike U.vm) (h : va_AOA ty u) : va_AOA ty U := by
  have h : (Cond.arrayOver (.array ty)).holds #[] u none u [] = true := h
  show (Cond.arrayOver (.array ty)).holds #[] U none U [] = true
  simp only [Cond.holds, Cond.value, beq_iff_eq] at h
  cases hc : u.vm.findClass (FieldType.array ty).toString with
  | none => simp [hc] at h
  | some comp =>
    simp only [hc, Option.bind_some, Option.bind_eq_some_iff, Option.map_eq_some_iff] at h
    obtain ⟨c, hi, k, hk, hb⟩ := h
    obtain ⟨k', hk', he⟩ := hvm.2.2 _ _ hk
    have hc' : U.vm.findClass (FieldType.array ty).toString = some comp := by rw [hvm.findClass]; exact hc
    simp only [Cond.holds, Cond.value, hc', Option.bind_some, beq_iff_eq]
    rw [Option.bind_eq_some_iff]
    refine ⟨c, (Vm.Alike.findIdx?_eqK hvm _ (fun _ => rfl)).trans hi, ?_⟩
    rw [hk', Option.map_some, ← hb, he, hvm.findClass]
theorem xjoin {A0 : Nat → Prop} {D : va_G} {cl : List vw_C} {wr wc w1 : va_W} {H H1 : Heap} (hP : va_P D cl (wr ++ wc) H) (hD : va_D A0 (wr ++ wc)) (hk : ∀ q : Nat, q < H.size → ¬ va_A wc H.size q → H1[q]? = H[q]?) (hF : ∀ q, va_A wc H.size q → A0 q) (hP1 : va_P D cl w1 H1) (hD1 : va_D (va_A wc H.size) w1) : va_P D cl (wr ++ w1) H1 ∧ va_D A0 (wr ++ w1) := by
  have rL : ∀ (k : Nat) (q : Nat × va_E), wr[k]? = some q → (wr ++ wc)[k]? = some q := fun k q h => by
    rw [List.getElem?_append_left (List.getElem?_eq_some_iff.mp h).1]; exact h
  have rR : ∀ (k : Nat) (q : Nat × va_E), wc[k]? = some q → (wr ++ wc)[wr.length + k]? = some q := fun k q h => by
    rw [List.getElem?_append_right (by omega), Nat.add_sub_cancel_left]; exact h
  have apart : ∀ (k : Nat) (q : Nat × va_E), wr[k]? = some q → q.1 < H.size ∧ ¬ va_A wc H.size q.1 := by
    intro k q hq
    have hl := (hP k q (rL k q hq)).lt
    refine ⟨hl, fun h => ?_⟩
    rcases h with ⟨k2, e, h⟩ | h
    · have hij := hD.1 k (wr.length + k2) q (q.1, e) (rL k q hq) (rR k2 _ h) rfl
      have := (List.getElem?_eq_some_iff.mp hq).1
      omega
    · omega
  refine ⟨va_P.app (fun k q hq => ?_) hP1, va_D.app ⟨fun i j p q h1 h2 h3 => hD.1 i j p q (rL i p h1) (rL j q h2) h3, fun k q h => hD.2 k q (rL k q h)⟩ (hD1.weaken (fun k q _ h => hF q.1 h)) (fun i j x y hx hy hxy => ?_)⟩
  · obtain ⟨g1, g2⟩ := apart k q hq
    exact (hP k q (rL k q hq)).kept (hk q.1 g1 g2)
  · exact (apart i x hx).2 (by rw [hxy]; exact hD1.2 j y hy)
theorem xsuf {D : va_G} {cl : List vw_C} {wr wc : va_W} {H : Heap} (hP : va_P D cl (wr ++ wc) H) : va_P D cl wc H := fun k q h => hP (wr.length + k) q (by rw [List.getElem?_append_right (by omega), Nat.add_sub_cancel_left]; exact h)
theorem xsufD {A : Nat → Prop} {wr wc : va_W} (hD : va_D A (wr ++ wc)) : va_D A wc := by
  have rR : ∀ (k : Nat) (q : Nat × va_E), wc[k]? = some q → (wr ++ wc)[wr.length + k]? = some q := fun k q h => by
    rw [List.getElem?_append_right (by omega), Nat.add_sub_cancel_left]; exact h
  refine ⟨fun i j p q h1 h2 h3 => ?_, fun k q h => hD.2 _ q (rR k q h)⟩
  have := hD.1 _ _ p q (rR i p h1) (rR j q h2) h3
  omega
def JW (X : XC) (nL : Nat) (pc : Nat) (lv : List (Nat × Value)) (st : List Value) (ws : va_W) (cells slots : Nat) : Prop := match X with
  | (p, l, e, R, s, m, args, below, meth, c, (D, _, _, _, _), A0, Q, _, _) => ∀ (H : Heap) (locs : List Loc) (ls : Array Slot), lv_has ls nL lv → va_P D vwCl ws H → va_D A0 ws → va_S A0 s.heap H locs → W p l e R s m args below meth c H locs cells slots Q (F0 m pc ls st)
/-- the method's own facts beside XE: its room for cells, rows of rows -/
def XN (X : XC) (mc ms : Nat) : Prop := match X with
  | (_, _, _, R, s, _, _, _, _, _, _, _, _, _, _) => R.cells = mc ∧ R.slots = ms ∧ va_AOA .int s
def XInit (X : XC) : Prop := match X with
  | (_, _, _, _, _, _, _, _, meth, _, _, _, _, _, _) => meth.name = "<init>"
def xcy (X : XC) (k : Nat) : ClassId := X.2.2.2.2.2.2.2.2.2.2.1.2.2.1 k
abbrev xz (X : XC) (k n : Nat) : va_E := .inl (xcy X k, n, .inl (fun _ => (0 : Int32)))
section JN
variable {X : XC} {cc : ByteArray} {own : String} {nL fr lo mc ms : Nat} {pc : Nat} {lv : List (Nat × Value)} {st : List Value} {ws : va_W} {cells slots : Nat}
theorem jn_aload {k : Fin 4} {i : Nat} {x : Nat} (hi : (k : Nat) = i) (q : Nat) (h : lv[q]? = some (i, .ref x)) (E : XE X cc own nL fr lo) (d : decode cc pc = .ok (.aload_n k, 1)) (K : JW X nL (pc + 1) lv (.ref x :: st) ws cells slots) : JW X nL pc lv st ws cells slots := by
  obtain ⟨p, l, e, R, s, m, args, below, meth, c, ⟨D, Am, cy, z, ad⟩, A0, Q, ce, sl⟩ := X
  obtain ⟨hx, hb, hml, hown, hts, hK, hA, hAz, hz, hG, hfr, hlo, hcl, hsl⟩ := E
  intro H locs ls hl hP hD hS
  exact lv_aload_n hx hb d hi (lv_at hl q h) (K H locs ls hl hP hD hS)
theorem jn_iconst {n : Int} {v : Int32} (hv : Int32.ofInt n = v) (E : XE X cc own nL fr lo) (d : decode cc pc = .ok (.iconst n, 1)) (K : JW X nL (pc + 1) lv (.int v :: st) ws cells slots) : JW X nL pc lv st ws cells slots := by
  obtain ⟨p, l, e, R, s, m, args, below, meth, c, ⟨D, Am, cy, z, ad⟩, A0, Q, ce, sl⟩ := X
  obtain ⟨hx, hb, hml, hown, hts, hK, hA, hAz, hz, hG, hfr, hlo, hcl, hsl⟩ := E
  intro H locs ls hl hP hD hS
  exact lv_iconst hx hb d hv (K H locs ls hl hP hD hS)
theorem jn_bipush {n : Int} {v : Int32} (hv : (Int8.ofInt n).toInt32 = v) (E : XE X cc own nL fr lo) (d : decode cc pc = .ok (.bipush n, 2)) (K : JW X nL (pc + 2) lv (.int v :: st) ws cells slots) : JW X nL pc lv st ws cells slots := by
  obtain ⟨p, l, e, R, s, m, args, below, meth, c, ⟨D, Am, cy, z, ad⟩, A0, Q, ce, sl⟩ := X
  obtain ⟨hx, hb, hml, hown, hts, hK, hA, hAz, hz, hG, hfr, hlo, hcl, hsl⟩ := E
  intro H locs ls hl hP hD hS
  exact lv_bipush hx hb d hv (K H locs ls hl hP hD hS)
theorem jn_sipush {n : Int} {v : Int32} (hv : (Int16.ofInt n).toInt32 = v) (E : XE X cc own nL fr lo) (d : decode cc pc = .ok (.sipush n, 3)) (K : JW X nL (pc + 3) lv (.int v :: st) ws cells slots) : JW X nL pc lv st ws cells slots := by
  obtain ⟨p, l, e, R, s, m, args, below, meth, c, ⟨D, Am, cy, z, ad⟩, A0, Q, ce, sl⟩ := X
  obtain ⟨hx, hb, hml, hown, hts, hK, hA, hAz, hz, hG, hfr, hlo, hcl, hsl⟩ := E
  intro H locs ls hl hP hD hS
  exact lv_sipush hx hb d hv (K H locs ls hl hP hD hS)
theorem jn_dup {v : Value} (hc : v.category = 1) (E : XE X cc own nL fr lo) (d : decode cc pc = .ok (.dup, 1)) (K : JW X nL (pc + 1) lv (v :: v :: st) ws cells slots) : JW X nL pc lv (v :: st) ws cells slots := by
  obtain ⟨p, l, e, R, s, m, args, below, meth, c, ⟨D, Am, cy, z, ad⟩, A0, Q, ce, sl⟩ := X
  obtain ⟨hx, hb, hml, hown, hts, hK, hA, hAz, hz, hG, hfr, hlo, hcl, hsl⟩ := E
  intro H locs ls hl hP hD hS
  exact lv_dup hx hb d hc (K H locs ls hl hP hD hS)
theorem jn_astore {k : Fin 4} {i : Nat} {x : Nat} {lv1 : List (Nat × Value)} (E : XE X cc own nL fr lo) (d : decode cc pc = .ok (.astore_n k, 1)) (hi : (k : Nat) = i) (hn : i < nL) (hl1 : (i, Value.ref x) :: lv.filter (fun q => !(q.1 == i) && !(q.1 + 1 == i && q.2.category == 2)) = lv1) (K : JW X nL (pc + 1) lv1 st ws cells slots) : JW X nL pc lv (.ref x :: st) ws cells slots := by
  obtain ⟨p, l, e, R, s, m, args, below, meth, c, ⟨D, Am, cy, z, ad⟩, A0, Q, ce, sl⟩ := X
  obtain ⟨hx, hb, hml, hown, hts, hK, hA, hAz, hz, hG, hfr, hlo, hcl, hsl⟩ := E
  intro H locs ls hl hP hD hS
  exact lv_astore_n hx hb d hi hl hn hl1 (fun ls1 hl1 => K H locs ls1 hl1 hP hD hS)
theorem jn_istore {k : Fin 4} {i : Nat} {x : Int32} {lv1 : List (Nat × Value)} (E : XE X cc own nL fr lo) (d : decode cc pc = .ok (.istore_n k, 1)) (hi : (k : Nat) = i) (hn : i < nL) (hl1 : (i, Value.int x) :: lv.filter (fun q => !(q.1 == i) && !(q.1 + 1 == i && q.2.category == 2)) = lv1) (K : JW X nL (pc + 1) lv1 st ws cells slots) : JW X nL pc lv (.int x :: st) ws cells slots := by
  obtain ⟨p, l, e, R, s, m, args, below, meth, c, ⟨D, Am, cy, z, ad⟩, A0, Q, ce, sl⟩ := X
  obtain ⟨hx, hb, hml, hown, hts, hK, hA, hAz, hz, hG, hfr, hlo, hcl, hsl⟩ := E
  intro H locs ls hl hP hD hS
  exact lv_istore_n hx hb d hi hl hn hl1 (fun ls1 hl1 => K H locs ls1 hl1 hP hD hS)
theorem jn_iload {k : Fin 4} {i : Nat} {x : Int32} (hi : (k : Nat) = i) (q : Nat) (h : lv[q]? = some (i, .int x)) (E : XE X cc own nL fr lo) (d : decode cc pc = .ok (.iload_n k, 1)) (K : JW X nL (pc + 1) lv (.int x :: st) ws cells slots) : JW X nL pc lv st ws cells slots := by
  obtain ⟨p, l, e, R, s, m, args, below, meth, c, ⟨D, Am, cy, z, ad⟩, A0, Q, ce, sl⟩ := X
  obtain ⟨hx, hb, hml, hown, hts, hK, hA, hAz, hz, hG, hfr, hlo, hcl, hsl⟩ := E
  intro H locs ls hl hP hD hS
  exact lv_iload_n hx hb d hi (lv_at hl q h) (K H locs ls hl hP hD hS)
theorem jn_iinc {i : Nat} {n : Int} {x v : Int32} {lv1 : List (Nat × Value)} (E : XE X cc own nL fr lo) (d : decode cc pc = .ok (.iinc i n, 3)) (q : Nat) (h : lv[q]? = some (i, .int x)) (hv : x + Int32.ofInt n = v) (hn : i < nL) (hl1 : (i, Value.int v) :: lv.filter (fun q => !(q.1 == i) && !(q.1 + 1 == i && q.2.category == 2)) = lv1) (K : JW X nL (pc + 3) lv1 st ws cells slots) : JW X nL pc lv st ws cells slots := by
  obtain ⟨p, l, e, R, s, m, args, below, meth, c, ⟨D, Am, cy, z, ad⟩, A0, Q, ce, sl⟩ := X
  obtain ⟨hx, hb, hml, hown, hts, hK, hA, hAz, hz, hG, hfr, hlo, hcl, hsl⟩ := E
  intro H locs ls hl hP hD hS
  exact lv_iinc (k := q) hx hb d hl h hv hn hl1 (fun ls1 hl1 => K H locs ls1 hl1 hP hD hS)
theorem jn_goto {off : Int} {tgt : Nat} (E : XE X cc own nL fr lo) (d : decode cc pc = .ok (.goto off, 3)) (ht : (pc : Int) + off = (tgt : Int)) (K : JW X nL tgt lv st ws cells slots) : JW X nL pc lv st ws cells slots := by
  obtain ⟨p, l, e, R, s, m, args, below, meth, c, ⟨D, Am, cy, z, ad⟩, A0, Q, ce, sl⟩ := X
  obtain ⟨hx, hb, hml, hown, hts, hK, hA, hAz, hz, hG, hfr, hlo, hcl, hsl⟩ := E
  intro H locs ls hl hP hD hS
  exact lv_goto hx hb d ht (K H locs ls hl hP hD hS)
theorem jn_ge {x y : Int32} {off : Int} {tgt : Nat} (E : XE X cc own nL fr lo) (d : decode cc pc = .ok (.if_icmp .ge off, 3)) (ht : (pc : Int) + off = (tgt : Int)) (K1 : y ≤ x → JW X nL tgt lv st ws cells slots) (K2 : ¬ y ≤ x → JW X nL (pc + 3) lv st ws cells slots) : JW X nL pc lv (.int y :: .int x :: st) ws cells slots := by
  obtain ⟨p, l, e, R, s, m, args, below, meth, c, ⟨D, Am, cy, z, ad⟩, A0, Q, ce, sl⟩ := X
  obtain ⟨hx, hb, hml, hown, hts, hK, hA, hAz, hz, hG, hfr, hlo, hcl, hsl⟩ := E
  intro H locs ls hl hP hD hS
  exact lv_icmp_ge hx hb d ht (fun q => K1 q H locs ls hl hP hD hS) (fun q => K2 q H locs ls hl hP hD hS)
theorem jn_alen {a n : Nat} {f : Nat → Int32} (q0 : Nat) (E : XE X cc own nL fr lo) (he : ws[q0]? = some (a, .inl (xcy X 1, n, .inl f))) (d : decode cc pc = .ok (.arraylength, 1)) (K : JW X nL (pc + 1) lv (.int (nI n) :: st) ws cells slots) : JW X nL pc lv (.ref a :: st) ws cells slots := by
  obtain ⟨p, l, e, R, s, m, args, below, meth, c, ⟨D, Am, cy, z, ad⟩, A0, Q, ce, sl⟩ := X
  obtain ⟨hx, hb, hml, hown, hts, hK, hA, hAz, hz, hG, hfr, hlo, hcl, hsl⟩ := E
  intro H locs ls hl hP hD hS
  exact va_alen (D := D) (cl := vwCl) (tys := xtys cy) (ty := .int) hx hb hK hP q0 0 he rfl rfl d (K H locs ls hl hP hD hS)
theorem jn_iast {a n : Nat} {f : Nat → Int32} {i x : Int32} {ws1 : va_W} (q0 : Nat) (E : XE X cc own nL fr lo) (he : ws[q0]? = some (a, .inl (xcy X 1, n, .inl f))) (hin : vp_in i n) (hw1 : ws.set q0 (a, .inl (xcy X 1, n, .inl (upd f i.toNatClampNeg x))) = ws1) (d : decode cc pc = .ok (.iastore, 1)) (K : JW X nL (pc + 1) lv st ws1 cells slots) : JW X nL pc lv (.int x :: .int i :: .ref a :: st) ws cells slots := by
  subst hw1
  obtain ⟨p, l, e, R, s, m, args, below, meth, c, ⟨D, Am, cy, z, ad⟩, A0, Q, ce, sl⟩ := X
  obtain ⟨hx, hb, hml, hown, hts, hK, hA, hAz, hz, hG, hfr, hlo, hcl, hsl⟩ := E
  intro H locs ls hl hP hD hS
  exact va_iast (D := D) (cl := vwCl) (tys := xtys cy) hx hb hK hP hD hS q0 0 he rfl hin d (fun H1 locs1 hP1 hD1 hS1 => K H1 locs1 ls hl hP1 hD1 hS1)
theorem jn_lsub {lv1 : List (Nat × Value)} (ks : List Nat) (h : lv_pick lv ks = lv1) (K : JW X nL pc lv1 st ws cells slots) : JW X nL pc lv st ws cells slots := by
  obtain ⟨p, l, e, R, s, m, args, below, meth, c, ⟨D, Am, cy, z, ad⟩, A0, Q, ce, sl⟩ := X
  intro H locs ls hl hP hD hS
  exact K H locs ls (lv_sub hl ks h) hP hD hS
theorem jn_eq {ws2 : va_W} (h : ws = ws2) (K : JW X nL pc lv st ws2 cells slots) : JW X nL pc lv st ws cells slots := h ▸ K
theorem jn_objInit {idx a : Nat} (E : XE X cc own nL fr lo) (h1 : Cond.methodLink own idx Lib.objectInit ∈ xG) (h2 : Cond.instanceMethod Lib.objectInit ∈ xG) (h3 : Cond.code Lib.objectInit ⟨#[0xb1]⟩ 1 none ∈ xG) (hf : 1 ≤ fr ∧ (st.map fun v => v.category).sum + 12 ≤ lo) (d : decode cc pc = .ok (.invokespecial idx, 3)) (K : JW X nL (pc + 3) lv st ws cells slots) : JW X nL pc lv (.ref a :: st) ws cells slots := by
  obtain ⟨p, l, e, R, s, m, args, below, meth, c, ⟨D, Am, cy, z, ad⟩, A0, Q, ce, sl⟩ := X
  obtain ⟨hx, hb, hml, hown, hts, hK, hA, hAz, hz, hG, hfr, hlo, hcl, hsl⟩ := E
  intro H locs ls hl hP hD hS
  refine W.objInit hx hb hown (hts _ h1) (hts _ h2) (hts _ h3) rfl (by rw [hml]; exact hl.1) rfl d (by omega) (by show 2 * 0 + _ + 12 ≤ _; omega) ?_
  exact K H locs ls hl hP hD hS
/-- what the tables say of an array's class -/
theorem xcyT {D : va_G} {cl : List vw_C} {cy : Nat → ClassId} {s : State} {cA : ClassId} {ty : FieldType} (h : va_K D cl (xtys cy ++ [(cA, ty)]) s) (k : Nat) (hk : (xtys cy)[k]? = some (cy (k + 1), ty)) (ht : ∀ c, va_RA s c ty → s.vm.findClass ("[" ++ ty.toString) = some c) : cA = cy (k + 1) := by
  have h1 := ht _ (h.2 k _ (by rw [List.getElem?_append_left (List.getElem?_eq_some_iff.mp hk).1]; exact hk)).2
  have h2 := ht _ (h.2 4 (cA, ty) rfl).2
  exact (Option.some.inj (h1.symm.trans h2)).symm
theorem jn_newa {atype : ArrayType} {n : Int32} {N k : Nat} {ty : FieldType} (E : XE X cc own nL fr lo) (G : XN X mc ms) (harr : Cond.arrayClass (newarray.typeOf atype) ∈ xG) (hty : newarray.typeOf atype = ty) (hk : ∀ cy : Nat → ClassId, (xtys cy)[k]? = some (cy (k + 1), ty)) (ht : ∀ s c, va_RA s c ty → s.vm.findClass ("[" ++ ty.toString) = some c) (hd : ∀ cA : ClassId, vp_cell cA (N, .inl (fun _ => 0)) = arrV cA N (fun _ => defaultValue ty)) (hn : ¬ n < 0) (hN : n.toNatClampNeg = N) (hbytes : N * componentBytes ty ≤ 536870912) (hc : cells + 1 ≤ mc) (hs : slots + N ≤ ms) (d : decode cc pc = .ok (.newarray atype, 2)) (K : ∀ q : Nat, JW X nL (pc + 2) lv (.ref q :: st) (ws ++ [(q, xz X (k + 1) N)]) (cells + 1) (slots + N)) : JW X nL pc lv (.int n :: st) ws cells slots := by
  obtain ⟨p, l, e, R, s, m, args, below, meth, c, ⟨D, Am, cy, z, ad⟩, A0, Q, ce, sl⟩ := X
  obtain ⟨hx, hb, hml, hown, hts, hK, hA, hAz, hz, hG, hfr, hlo, hcl, hsl⟩ := E
  obtain ⟨g1, g2, g3⟩ := G
  intro H locs ls hl hP hD hS
  refine va_newa (D := D) (cl := vwCl) hx hb (hts _ harr) hty hK hP hD hS hA hd hn hN hbytes (by omega) (by omega) d (fun q cA H1 hK1 hP1 hD1 hS1 => ?_)
  have e := xcyT hK1 k (hk cy) (ht s)
  subst e
  exact K q H1 locs ls hl hP1 hD1 hS1
theorem jn_mna {index : Nat} {n k : Int32} {N M : Nat} (E : XE X cc own nL fr lo) (G : XN X mc ms) (hcl : Cond.classLink own index "[[I" ∈ xG) (harr : Cond.arrayClass .int ∈ xG) (hn : ¬ n < 0) (hk : ¬ k < 0) (hN : n.toNatClampNeg = N) (hM : k.toNatClampNeg = M) (hb1 : N * 4 ≤ 536870912) (hb2 : M * 4 ≤ 536870912) (hb3 : M ≤ 536870912) (hc : cells + (1 + N) ≤ mc) (hs : slots + (N + N * M) ≤ ms) (d : decode cc pc = .ok (.multianewarray index 2, 4)) (K : ∀ (q : Nat) (r : Nat → Nat), JW X nL (pc + 4) lv (.ref q :: st) ((ws ++ [(q, .inl (xcy X 4, N, .inr (.inr (.inr (.inr (fun i => ((List.range N).map r)[i]?))))))]) ++ (List.range N).map (fun i => (r i, xz X 1 M))) (cells + 1 + N) (slots + N + N * M)) : JW X nL pc lv (.int k :: .int n :: st) ws cells slots := by
  obtain ⟨p, l, e, R, s, m, args, below, meth, c, ⟨D, Am, cy, z, ad⟩, A0, Q, ce, sl⟩ := X
  obtain ⟨hx, hb, hml, hown, hts, hK, hA, hAz, hz, hG, hfr, hlo, hcl0, hsl⟩ := E
  obtain ⟨g1, g2, g3⟩ := G
  intro H locs ls hl hP hD hS
  have hcy : s.vm.findClass (FieldType.array .int).toString = some (cy 1) := (hK.2 0 _ rfl).2
  have e0 : ws = ws ++ va_pl [] (fun _ => xz (p, l, e, R, s, m, args, below, meth, c, (D, Am, cy, z, ad), A0, Q, ce, sl) 1 M) := by simp [va_pl]
  rw [e0] at hP hD
  refine va_mna (D := D) (cl := vwCl) (ty := .int) (z := (M, .inl (fun _ => 0))) hx hb hown (hts _ hcl) g3 (hts _ harr) hcy hK hP hD hS hA hn hk hN hM hb1 hb2 hb3 rfl rfl (by omega) (by omega) (fun c => arrV_new c M (.int 0)) d (fun q r cA H1 _ _ hK1 hP1 hD1 hS1 => ?_)
  have e := xcyT hK1 3 rfl (fun c h => h)
  subst e
  have e1 : va_pl ([] ++ (List.range N).map r) (vr_up (fun _ => xz (p, l, e, R, s, m, args, below, meth, c, (D, Am, cy, z, ad), A0, Q, ce, sl) 1 M) ((List.range N).map r) (.inl (cy 1, (M, .inl (fun _ => 0))))) = (List.range N).map (fun i => (r i, xz (p, l, e, R, s, m, args, below, meth, c, (D, Am, cy, z, ad), A0, Q, ce, sl) 1 M)) := by
    unfold va_pl
    rw [List.nil_append, List.map_map]
    refine List.map_congr_left (fun i hi => ?_)
    show (r i, vr_up _ _ _ (r i)) = _
    rw [vr_up_in (List.mem_map_of_mem hi)]
    rfl
  have e2 : (fun i => if i < N then some (r i) else none) = fun i => ((List.range N).map r)[i]? := by
    funext i
    rw [List.getElem?_map]
    by_cases h : i < N
    · rw [if_pos h, List.getElem?_range h]; rfl
    · rw [if_neg h, List.getElem?_eq_none (by simp; omega)]; rfl
  rw [e1, e2] at hP1 hD1
  exact K q r H1 locs ls hl hP1 hD1 hS1
theorem jn_putF {C : String} {F : u_T} {NF ci index k a : Nat} {fs : List Value} {v : Value} {ty : FieldType} {ws1 : va_W} (q0 : Nat) (E : XE X cc own nL fr lo) (I : XInit X) (hin : ∀ w ∈ u_ws C F NF, w ∈ xG) (ty0 : Nat → FieldType) (hty : ∀ k, k < NF → parseFieldDescriptor (F k).2.2.1 = some (ty0 k)) (hnm : ∀ a, a < NF → ∀ b, b < NF → a ≠ b → (F a).2.1 ≠ (F b).2.1) (hc : vwCl[ci]? = some (C, F, NF)) (he : ws[q0]? = some (a, .inr (ci, fs))) (hk : k < NF) (hlink : Cond.fieldLink own index C (F k).2.1 (F k).2.2.1 ∈ xG) (hsame : (F k).1 = C) (hfin : (F k).2.2.2 = true) (hdecl : (F k).1 = own) (hd : parseFieldDescriptor (F k).2.2.1 = some ty) (hn : narrow ty v = v) (hfit : fits ty v = true) (hl : k < fs.length) (hw1 : ws.set q0 (a, .inr (ci, fs.set k v)) = ws1) (d : decode cc pc = .ok (.putfield index, 3)) (K : JW X nL (pc + 3) lv st ws1 cells slots) : JW X nL pc lv (v :: .ref a :: st) ws cells slots := by
  subst hw1
  obtain ⟨p, l, e, R, s, m, args, below, meth, c, ⟨D, Am, cy, z, ad⟩, A0, Q, ce, sl⟩ := X
  obtain ⟨hx, hb, hml, hown, hts, hK, hA, hAz, hz, hG, hfr, hlo, hcl0, hsl⟩ := E
  intro H locs ls hl1 hP hD hS
  exact va_putF (D := D) (cl := vwCl) hx hb hts hin ty0 hty hnm hown hK hP hD hS q0 he hc k hk (hts _ hlink) (fun x h => by rw [← hsame]; exact h) hfin I hdecl hd hn hfit hl d (fun H1 locs1 hP1 hD1 hS1 => K H1 locs1 ls hl1 hP1 hD1 hS1)
theorem jn_get {C : String} {F : u_T} {NF ci index k a : Nat} {fs : List Value} {v : Value} (q0 : Nat) (E : XE X cc own nL fr lo) (hin : ∀ w ∈ u_ws C F NF, w ∈ xG) (hc : vwCl[ci]? = some (C, F, NF)) (he : ws[q0]? = some (a, .inr (ci, fs))) (hk : k < NF) (hlink : Cond.fieldLink own index C (F k).2.1 (F k).2.2.1 ∈ xG) (hsame : (F k).1 = C) (hv : fs[k]? = some v) (d : decode cc pc = .ok (.getfield index, 3)) (K : JW X nL (pc + 3) lv (v :: st) ws cells slots) : JW X nL pc lv (.ref a :: st) ws cells slots := by
  obtain ⟨p, l, e, R, s, m, args, below, meth, c, ⟨D, Am, cy, z, ad⟩, A0, Q, ce, sl⟩ := X
  obtain ⟨hx, hb, hml, hown, hts, hK, hA, hAz, hz, hG, hfr, hlo, hcl0, hsl⟩ := E
  intro H locs ls hl1 hP hD hS
  exact va_get (D := D) (cl := vwCl) hx hb hts hin hown hK hP q0 he hc k hk (hts _ hlink) (fun x h => by rw [← hsame]; exact h) hv d (K H locs ls hl1 hP hD hS)
theorem jn_new {C : String} {F : u_T} {NF ci index : Nat} {fs : List Value} (E : XE X cc own nL fr lo) (G : XN X mc ms) (hin : ∀ w ∈ u_ws C F NF, w ∈ xG) (ty : Nat → FieldType) (hty : ∀ k, k < NF → parseFieldDescriptor (F k).2.2.1 = some (ty k)) (h1 : Cond.classLink own index C ∈ xG) (h2 : Cond.instantiable C NF ∈ xG) (h3 : Cond.initialized C ∈ xG) (hc : vwCl[ci]? = some (C, F, NF)) (hfs : ∀ j, j < NF → defaultValue (ty j) = vp_V fs j) (hcc : cells + 1 ≤ mc) (hs : slots + NF ≤ ms) (d : decode cc pc = .ok (.new index, 3)) (K : ∀ q : Nat, JW X nL (pc + 3) lv (.ref q :: st) (ws ++ [(q, .inr (ci, fs))]) (cells + 1) (slots + NF)) : JW X nL pc lv st ws cells slots := by
  obtain ⟨p, l, e, R, s, m, args, below, meth, c, ⟨D, Am, cy, z, ad⟩, A0, Q, ce, sl⟩ := X
  obtain ⟨hx, hb, hml, hown, hts, hK, hA, hAz, hz, hG, hfr, hlo, hcl0, hsl⟩ := E
  obtain ⟨g1, g2, g3⟩ := G
  intro H locs ls hl1 hP hD hS
  exact va_new (D := D) (cl := vwCl) hx hb hts hin ty hty hown (hts _ h1) (hts _ h2) (hts _ h3) hK hP hD hS hA hc hfs (by omega) (by omega) d (fun q H1 hP1 hD1 hS1 => K q H1 locs ls hl1 hP1 hD1 hS1)
end JN
/-- a constructor's contract: from its world w0 to a piece -/
def CtN (y : MethodName) (b : ByteArray) (n fr lo mc ms : Nat) (av : List Value) (w0 : (Nat → ClassId) → va_W) (piece : (Nat → ClassId) → (Nat → Nat) → va_W) : Prop := ∀ (l : Launch) (D : va_G) (cy : Nat → ClassId) (z : Nat) (ad : Nat → Nat) (sz : Nat), Met l y (Cond.code y b n none :: xG) { frames := fr, cells := mc, slots := ms, locals := lo } (va_Pc av (fun U => U.heap.size = sz ∧ z ≤ sz ∧ va_P D vwCl (w0 cy) U.heap ∧ va_K D vwCl (xtys cy) U ∧ va_D (fun q => z ≤ q) (w0 cy) ∧ XG z ad U U.heap ∧ va_AOA .int U)) (va_Qv (fun _ : Nat → Nat => True) (fun u t => va_P D vwCl (piece cy u) t.heap ∧ va_K D vwCl (xtys cy) t ∧ va_D (va_A (w0 cy) sz) (piece cy u)) (va_A (w0 cy) sz)) mc ms (va_A (w0 cy) sz)
theorem CtN.blind {D : va_G} {cy : Nat → ClassId} {z : Nat} {ad : Nat → Nat} {sz : Nat} {av : List Value} {w0 : va_W} : FrameBlind (va_Pc av (fun U => U.heap.size = sz ∧ z ≤ sz ∧ va_P D vwCl w0 U.heap ∧ va_K D vwCl (xtys cy) U ∧ va_D (fun q => z ≤ q) w0 ∧ XG z ad U U.heap ∧ va_AOA .int U)) := fun a U g mk q => by
  obtain ⟨q0, q1, qz, qP, qK, qD, qG, qO⟩ := q
  exact ⟨q0, q1, qz, qP, va_K.moved (u := U) (U := U.calling g mk a) (Vm.Alike.refl U.vm) qK, qD, XG.same (u := U) (U := U.calling g mk a) rfl qG, xaoa (u := U) (U := U.calling g mk a) (Vm.Alike.refl U.vm) qO⟩
/-- the end of a constructor: 'return' with the piece -/
def XVN (X : XC) (cc : ByteArray) (mc ms : Nat) (piece : (Nat → ClassId) → (Nat → Nat) → va_W) : Prop := ∀ (nL pc : Nat) (lv : List (Nat × Value)) (u : Nat → Nat), decode cc pc = .ok (.return_, 1) → JW X nL pc lv [] (piece (xcy X) u) mc ms
theorem ct_new {y : MethodName} {b : ByteArray} {n fr lo mc ms : Nat} {av : List Value} {w0 : (Nat → ClassId) → va_W} {piece : (Nat → ClassId) → (Nat → Nat) → va_W} (hy : plainName y.cls = true) (hn1 : y.name = "<init>") (hlv : (lg_sl av).length ≤ n) (body : ∀ X : XC, XE X b y.cls n fr lo → XN X mc ms → XInit X → XVN X b mc ms piece → JW X n 0 (lv_args 0 av) [] (w0 (xcy X)) 0 0) : CtN y b n fr lo mc ms av w0 piece := by
  intro l D cy z ad sz
  refine Met.ofW (cc := b) (maxL := n) (ret := none) hy rfl ?_
  intro p e s m args below meth c s₁ B hml hv
  obtain ⟨rfl, hsz, hz, hP, hK, hD0, hG, hO⟩ := hv
  have hx := B.exec
  have hb := B.bytes
  have hr := B.returns
  have hts := atoms_spec (ws := Cond.code y b n none :: xG) B.pre
  have hown : s.vm.findClass y.cls = some m.cls := findClass_of_methodNamed B.named
  have hlocks := B.notSynchronized
  have hin : meth.name = "<init>" := (name_of_methodNamed B.named B.method).1.trans hn1
  subst hsz
  have hl := lv_entry av (n := n) hlv
  rw [lg_entry_eq]
  generalize (lg_sl av ++ List.replicate (n - (lg_sl av).length) Slot.unset).toArray = ls at hl ⊢
  have hAz : ∀ q, va_A (w0 cy) s.heap.size q → z ≤ q := by
    intro q hq
    rcases hq with ⟨k, e, hk⟩ | hq
    · exact hD0.2 k _ hk
    · exact Nat.le_trans hz hq
  refine body (p, l, e, { frames := fr, cells := mc, slots := ms, locals := lo }, s, m, av.toArray, below, meth, c, (D, fun _ => 0, cy, z, ad), va_A (w0 cy) s.heap.size, MQ below (va_Qv (fun _ : Nat → Nat => True) (fun u t => va_P D vwCl (piece cy u) t.heap ∧ va_K D vwCl (xtys cy) t ∧ va_D (va_A (w0 cy) s.heap.size) (piece cy u)) (va_A (w0 cy) s.heap.size)) av.toArray s mc ms (va_A (w0 cy) s.heap.size), 0, 0) ⟨hx, hb, hml, hown, fun w hw => hts w (List.mem_cons_of_mem _ hw), hK, fun q hq => Or.inr hq, hAz, hz, hG, rfl, rfl, Nat.zero_le _, Nat.zero_le _⟩ ⟨rfl, rfl, hO⟩ hin (fun nL pc lv u d H locs ls _ gP gD gS => ?_) s.heap [] ls hl hP hD0.self va_S.rf
  exact W.vret hx hb hr (fun t ht hW => ⟨⟨u, rfl, trivial, by rw [ht]; exact gP, va_K.moved hW.alike hK, gD⟩, gS.F ht⟩) gS.2.2 d hlocks
/-- likewise of a static method -/
theorem ct_new2 {y : MethodName} {b : ByteArray} {n fr lo mc ms : Nat} {av : List Value} {w0 : (Nat → ClassId) → va_W} {piece : (Nat → ClassId) → (Nat → Nat) → va_W} (hy : plainName y.cls = true) (hlv : (lg_sl av).length ≤ n) (body : ∀ X : XC, XE X b y.cls n fr lo → XN X mc ms → XVN X b mc ms piece → JW X n 0 (lv_args 0 av) [] (w0 (xcy X)) 0 0) : CtN y b n fr lo mc ms av w0 piece := by
  intro l D cy z ad sz
  refine Met.ofW (cc := b) (maxL := n) (ret := none) hy rfl ?_
  intro p e s m args below meth c s₁ B hml hv
  obtain ⟨rfl, hsz, hz, hP, hK, hD0, hG, hO⟩ := hv
  have hx := B.exec
  have hb := B.bytes
  have hr := B.returns
  have hts := atoms_spec (ws := Cond.code y b n none :: xG) B.pre
  have hown : s.vm.findClass y.cls = some m.cls := findClass_of_methodNamed B.named
  have hlocks := B.notSynchronized
  subst hsz
  have hl := lv_entry av (n := n) hlv
  rw [lg_entry_eq]
  generalize (lg_sl av ++ List.replicate (n - (lg_sl av).length) Slot.unset).toArray = ls at hl ⊢
  have hAz : ∀ q, va_A (w0 cy) s.heap.size q → z ≤ q := by
    intro q hq
    rcases hq with ⟨k, e, hk⟩ | hq
    · exact hD0.2 k _ hk
    · exact Nat.le_trans hz hq
  refine body (p, l, e, { frames := fr, cells := mc, slots := ms, locals := lo }, s, m, av.toArray, below, meth, c, (D, fun _ => 0, cy, z, ad), va_A (w0 cy) s.heap.size, MQ below (va_Qv (fun _ : Nat → Nat => True) (fun u t => va_P D vwCl (piece cy u) t.heap ∧ va_K D vwCl (xtys cy) t ∧ va_D (va_A (w0 cy) s.heap.size) (piece cy u)) (va_A (w0 cy) s.heap.size)) av.toArray s mc ms (va_A (w0 cy) s.heap.size), 0, 0) ⟨hx, hb, hml, hown, fun w hw => hts w (List.mem_cons_of_mem _ hw), hK, fun q hq => Or.inr hq, hAz, hz, hG, rfl, rfl, Nat.zero_le _, Nat.zero_le _⟩ ⟨rfl, rfl, hO⟩ (fun nL pc lv u d H locs ls _ gP gD gS => ?_) s.heap [] ls hl hP hD0.self va_S.rf
  exact W.vret hx hb hr (fun t ht hW => ⟨⟨u, rfl, trivial, by rw [ht]; exact gP, va_K.moved hW.alike hK, gD⟩, gS.F ht⟩) gS.2.2 d hlocks
section JN2
variable {X : XC} {cc : ByteArray} {own : String} {nL fr lo mc ms : Nat} {pc : Nat} {lv : List (Nat × Value)} {st st0 : List Value} {ws wr : va_W} {cells slots : Nat}
variable {y : MethodName} {b : ByteArray} {n fr1 lo1 mc1 ms1 k index a : Nat} {av : List Value} {piece : (Nat → ClassId) → (Nat → Nat) → va_W} {w0 : (Nat → ClassId) → va_W}
theorem jn_static (E : XE X cc own nL fr lo) (G : XN X mc ms) (hC : CtN y b n fr1 lo1 mc1 ms1 av w0 piece) (hl : Cond.methodLink own index y ∈ xG) (h1 : Cond.static y ∈ xG) (h2 : Cond.initialized y.cls ∈ xG) (h3 : Cond.code y b n none ∈ xG) (hd : y.cls ≠ "java/lang/invoke/MethodHandle" ∧ y.cls ≠ "java/lang/invoke/VarHandle" ∧ (parseMethodDescriptor y.desc).map (fun d => d.parameters.length) = some k) (hk : av.length = k) (hst : st0 = av.reverse ++ st) (hf : fr1 + 1 ≤ fr ∧ 8 + (n + 11) + lo1 ≤ lo) (hroom : cells + mc1 ≤ mc ∧ slots + ms1 ≤ ms) (hW : (st.map fun v => v.category).sum ≤ 8) (d : decode cc pc = .ok (.invokestatic index, 3)) (K : ∀ u : Nat → Nat, JW X nL (pc + 3) lv st (wr ++ piece (xcy X) u) (cells + mc1) (slots + ms1)) : JW X nL pc lv st0 (wr ++ w0 (xcy X)) cells slots := by
  obtain ⟨p, l, e, R, s, m, args, below, meth, c, ⟨D, Am, cy, z, ad⟩, A0, Q, ce, sl⟩ := X
  obtain ⟨hx, hb, hml, hown, hts, hK, hA, hAz, hz, hG, hfr, hlo, hcl0, hsl⟩ := E
  obtain ⟨g1, g2, g3⟩ := G
  intro H locs ls hl1 hP hD hS
  have hF : ∀ q, va_A (w0 cy) H.size q → A0 q := by
    intro q h
    rcases h with ⟨j, ee, hj⟩ | h
    · exact (xsufD hD).2 j _ hj
    · exact hA q (Nat.le_trans hS.1 h)
  have hcw : CallB R s args own index y b n none (Cond.code y b n none :: xG) { frames := fr1, cells := mc1, slots := ms1, locals := lo1 } mc1 ms1 k ∧ (Cond.static y).before args s = true := ⟨callB_of k hts (xGI h3) rfl rfl rfl (hts _ h2) (hts _ hl) hd ⟨by rw [hfr]; exact hf.1, by rw [hlo]; exact hf.2⟩, hts _ h1⟩
  have hrun := va_runS (As := av) (rest := st) (g := F0 m pc ls st0) (H := H) (locs := locs) (cells := cells) (slots := slots) (below := below) (meth := meth) (e := e) ⟨hx, hb, hml, hown, hts⟩ (hC l D cy z ad H.size) hcw ⟨CtN.blind, fun U hU hW => ⟨rfl, by rw [hU], Nat.le_trans hz hS.1, by rw [hU]; exact xsuf hP, va_K.moved hW.alike hK, (xsufD hD).weaken (fun k q _ h => hAz _ h), by rw [hU]; exact XG.warm hW (hG.kept (fun a h1 h2 => hS.2.1 a h1 (fun q => h2 (hAz a q)))), xaoa hW.alike g3⟩⟩ rfl hk hl1.1 hst (lv_room (m := m) (pc := pc) (ls := ls) (rest := st0) hW) d (by rw [g1, g2]; exact hroom)
  refine va_callv hrun hS (fun q _ h => hF q h) hF (fun u t H1 locs1 ht hvm hw hB hz1 hk1 hS1 => ?_)
  obtain ⟨gP, gK, gD⟩ := hB
  rw [ht] at gP
  obtain ⟨jP, jD⟩ := xjoin hP hD hk1 hF gP gD
  exact K u H1 locs1 ls hl1 jP jD hS1
/-- a nested constructor's call: w0 the list's end; by an own link or a nest mate's -/
theorem jn_init (E : XE X cc own nL fr lo) (G : XN X mc ms) (hC : CtN y b n fr1 lo1 mc1 ms1 av w0 piece) (hl : Cond.methodLink own index y ∈ xG) (h1 : Cond.instanceMethod y ∈ xG) (h2 : Cond.initialized y.cls ∈ xG) (h3 : Cond.code y b n none ∈ xG) (hy1 : y.name = "<init>") (hd : y.cls ≠ "java/lang/invoke/MethodHandle" ∧ y.cls ≠ "java/lang/invoke/VarHandle" ∧ (parseMethodDescriptor y.desc).map (fun d => d.parameters.length) = some k) (As : List Value) (hav : av = .ref a :: As) (hk : As.length = k) (hst : st0 = As.reverse ++ .ref a :: st) (hf : fr1 + 1 ≤ fr ∧ 8 + (n + 11) + lo1 ≤ lo) (hroom : cells + mc1 ≤ mc ∧ slots + ms1 ≤ ms) (hW : (st.map fun v => v.category).sum ≤ 8) (d : decode cc pc = .ok (.invokespecial index, 3)) (K : ∀ u : Nat → Nat, JW X nL (pc + 3) lv st (wr ++ piece (xcy X) u) (cells + mc1) (slots + ms1)) : JW X nL pc lv st0 (wr ++ w0 (xcy X)) cells slots := by
  obtain ⟨p, l, e, R, s, m, args, below, meth, c, ⟨D, Am, cy, z, ad⟩, A0, Q, ce, sl⟩ := X
  obtain ⟨hx, hb, hml, hown, hts, hK, hA, hAz, hz, hG, hfr, hlo, hcl0, hsl⟩ := E
  obtain ⟨g1, g2, g3⟩ := G
  intro H locs ls hl1 hP hD hS
  have hF : ∀ q, va_A (w0 cy) H.size q → A0 q := by
    intro q h
    rcases h with ⟨j, ee, hj⟩ | h
    · exact (xsufD hD).2 j _ hj
    · exact hA q (Nat.le_trans hS.1 h)
  have hcw : CallB R s args own index y b n none (Cond.code y b n none :: xG) { frames := fr1, cells := mc1, slots := ms1, locals := lo1 } mc1 ms1 k ∧ y.name = "<init>" ∧ (Cond.instanceMethod y).before args s = true := ⟨callB_of k hts (xGI h3) rfl rfl rfl (hts _ h2) (hts _ hl) hd ⟨by rw [hfr]; exact hf.1, by rw [hlo]; exact hf.2⟩, hy1, hts _ h1⟩
  have hrun := va_runI (As := As) (rest := st) (b := a) (g := F0 m pc ls st0) (H := H) (locs := locs) (cells := cells) (slots := slots) (below := below) (meth := meth) (e := e) ⟨hx, hb, hml, hown, hts⟩ (hC l D cy z ad H.size) hcw ⟨CtN.blind, fun U hU hW => ⟨by rw [hav], by rw [hU], Nat.le_trans hz hS.1, by rw [hU]; exact xsuf hP, va_K.moved hW.alike hK, (xsufD hD).weaken (fun k q _ h => hAz _ h), by rw [hU]; exact XG.warm hW (hG.kept (fun a h1 h2 => hS.2.1 a h1 (fun q => h2 (hAz a q)))), xaoa hW.alike g3⟩⟩ rfl hk hl1.1 hst (lv_room (m := m) (pc := pc) (ls := ls) (rest := st0) hW) d (by rw [g1, g2]; exact hroom)
  refine va_callv hrun hS (fun q _ h => hF q h) hF (fun u t H1 locs1 ht hvm hw hB hz1 hk1 hS1 => ?_)
  obtain ⟨gP, gK, gD⟩ := hB
  rw [ht] at gP
  obtain ⟨jP, jD⟩ := xjoin hP hD hk1 hF gP gD
  exact K u H1 locs1 ls hl1 jP jD hS1
theorem jn_initN (E : XE X cc own nL fr lo) (G : XN X mc ms) (hC : CtN y b n fr1 lo1 mc1 ms1 av w0 piece) (hl : (own, index, y) ∈ xNestL) (h1 : Cond.instanceMethod y ∈ xG) (h2 : Cond.initialized y.cls ∈ xG) (h3 : Cond.code y b n none ∈ xG) (hy1 : y.name = "<init>") (hd : y.cls ≠ "java/lang/invoke/MethodHandle" ∧ y.cls ≠ "java/lang/invoke/VarHandle" ∧ (parseMethodDescriptor y.desc).map (fun d => d.parameters.length) = some k) (As : List Value) (hav : av = .ref a :: As) (hk : As.length = k) (hst : st0 = As.reverse ++ .ref a :: st) (hf : fr1 + 1 ≤ fr ∧ 8 + (n + 11) + lo1 ≤ lo) (hroom : cells + mc1 ≤ mc ∧ slots + ms1 ≤ ms) (hW : (st.map fun v => v.category).sum ≤ 8) (d : decode cc pc = .ok (.invokespecial index, 3)) (K : ∀ u : Nat → Nat, JW X nL (pc + 3) lv st (wr ++ piece (xcy X) u) (cells + mc1) (slots + ms1)) : JW X nL pc lv st0 (wr ++ w0 (xcy X)) cells slots := by
  obtain ⟨p, l, e, R, s, m, args, below, meth, c, ⟨D, Am, cy, z, ad⟩, A0, Q, ce, sl⟩ := X
  obtain ⟨hx, hb, hml, hown, hts, hK, hA, hAz, hz, hG, hfr, hlo, hcl0, hsl⟩ := E
  obtain ⟨g1, g2, g3⟩ := G
  intro H locs ls hl1 hP hD hS
  have hF : ∀ q, va_A (w0 cy) H.size q → A0 q := by
    intro q h
    rcases h with ⟨j, ee, hj⟩ | h
    · exact (xsufD hD).2 j _ hj
    · exact hA q (Nat.le_trans hS.1 h)
  have hcw : va_CN R s args own index y "VerseCustoms" b n none (Cond.code y b n none :: xG) { frames := fr1, cells := mc1, slots := ms1, locals := lo1 } mc1 ms1 k ∧ y.name = "<init>" ∧ (Cond.instanceMethod y).before args s = true := ⟨va_cnB k hts (xGI h3) rfl rfl rfl (hG.2.2.2.2.2.2.2.2 _ hl) (hts _ h2) hd ⟨by rw [hfr]; exact hf.1, by rw [hlo]; exact hf.2⟩, hy1, hts _ h1⟩
  have hrun := va_runIN (As := As) (rest := st) (b := a) (g := F0 m pc ls st0) (H := H) (locs := locs) (cells := cells) (slots := slots) (below := below) (meth := meth) (e := e) ⟨hx, hb, hml, hown, hts⟩ (hC l D cy z ad H.size) hcw ⟨CtN.blind, fun U hU hW => ⟨by rw [hav], by rw [hU], Nat.le_trans hz hS.1, by rw [hU]; exact xsuf hP, va_K.moved hW.alike hK, (xsufD hD).weaken (fun k q _ h => hAz _ h), by rw [hU]; exact XG.warm hW (hG.kept (fun a h1 h2 => hS.2.1 a h1 (fun q => h2 (hAz a q)))), xaoa hW.alike g3⟩⟩ rfl hk hl1.1 hst (lv_room (m := m) (pc := pc) (ls := ls) (rest := st0) hW) d (by rw [g1, g2]; exact hroom)
  refine va_callv hrun hS (fun q _ h => hF q h) hF (fun u t H1 locs1 ht hvm hw hB hz1 hk1 hS1 => ?_)
  obtain ⟨gP, gK, gD⟩ := hB
  rw [ht] at gP
  obtain ⟨jP, jD⟩ := xjoin hP hD hk1 hF gP gD
  exact K u H1 locs1 ls hl1 jP jD hS1
end JN2
