/-- the memory at the start: nothing but the uses -/
def xs0 : XS := fun i k => if i = 10 then (if k < 6 then 3 else 0) else 0
def xw85 (Am : Nat → Nat) (cy : Nat → ClassId) : va_W := (List.range 85).map (fun i => (Am i, xcell Am cy xs0 i))
theorem xw85_len {Am : Nat → Nat} {cy : Nat → ClassId} : (xw85 Am cy).length = 85 := by simp [xw85]
theorem xw85_get {Am : Nat → Nat} {cy : Nat → ClassId} {i : Nat} (h : i < 85) : (xw85 Am cy)[i]? = some (Am i, xcell Am cy xs0 i) := by
  unfold xw85
  rw [List.getElem?_map, List.getElem?_range h]
  rfl
theorem ap_get {α : Type} {W l : List α} {n k : Nat} (hW : W.length = n) : (W ++ l)[n + k]? = l[k]? := by
  subst hW
  rw [List.getElem?_append_right (by omega), Nat.add_sub_cancel_left]
theorem ap_set {α : Type} {W l : List α} {n k : Nat} {x : α} (hW : W.length = n) : (W ++ l).set (n + k) x = W ++ l.set k x := by
  subst hW
  rw [List.set_append_right _ _ (by omega), Nat.add_sub_cancel_left]
def xam (Am : Nat → Nat) (h0 : Nat) (u : Nat → Nat) : Nat → Nat := fun i => if i < 85 then Am i else if i = 85 then h0 else u (i - 86)
theorem xcellOf_Am {Am Am' : Nat → Nat} {cy : Nat → ClassId} {σ : XS} {i : Nat} {h : Nat × Nat × List (Option Nat)} (hA : ∀ t, some t ∈ h.2.2 → Am t = Am' t) : xcellOf Am cy σ i h = xcellOf Am' cy σ i h := by
  have hg : ∀ (fs : List (Option Nat)) (k : Nat), (∀ t, some t ∈ fs → Am t = Am' t) → (fs.getD k none).map Am = (fs.getD k none).map Am' := by
    intro fs k hA
    cases hv : fs.getD k none with
    | none => rfl
    | some t =>
      rw [List.getD_eq_getElem?_getD] at hv
      cases hq : fs[k]? with
      | none => rw [hq] at hv; cases hv
      | some v =>
        rw [hq] at hv
        have hv : v = some t := hv
        subst hv
        show some (Am t) = some (Am' t)
        rw [hA t (List.mem_of_getElem? hq)]
  obtain ⟨t, n, fs⟩ := h
  have hA : ∀ t, some t ∈ fs → Am t = Am' t := hA
  have hf : xflds Am σ i fs = xflds Am' σ i fs := by
    unfold xflds
    refine List.map_congr_left (fun k _ => ?_)
    have := hg fs k hA
    cases hv : fs.getD k none with
    | none => rfl
    | some t => rw [hv] at this; exact congrArg Value.ref (Option.some.inj this)
  have hr : (fun j => (fs.getD j none).map Am) = fun j => (fs.getD j none).map Am' := funext fun j => hg fs j hA
  unfold xcellOf
  split
  · rename_i h; cases h; rw [hf]
  · rename_i h; cases h; rw [hr]
  · rfl
theorem xrefs85b : ∀ i, i < 85 → (shp i).2.2.all (fun o => decide (o.getD 0 < 85)) = true := by decide +kernel
theorem xrefs85 (i : Nat) (hi : i < 85) (t : Nat) (h : some t ∈ (shp i).2.2) : t < 85 := of_decide_eq_true (List.all_eq_true.mp (xrefs85b i hi) (some t) h)
/-- rows of rows: as a list of addresses, as the shape has it -/
theorem xrows {Am : Nat → Nat} {ids as : List Nat} {fs : List (Option Nat)} (h1 : fs = ids.map some) (h2 : as = ids.map Am) : (fun i => as[i]?) = fun j => (fs.getD j none).map Am := by
  subst h1 h2
  funext j
  rw [List.getElem?_map, List.getD_eq_getElem?_getD, List.getElem?_map]
  cases ids[j]? <;> rfl
section JN3
variable {X : XC} {cc : ByteArray} {own : String} {nL fr lo mc ms : Nat} {pc : Nat} {lv : List (Nat × Value)} {st st0 : List Value} {cells slots : Nat} {σ σ1 : XS}
variable {y : MethodName} {b : ByteArray} {n fr1 lo1 k index i : Nat} {ret : Option FieldType} {av : (Nat → Nat) → (Nat → Nat) → List Value} {r : Int32}
/-- a void method over the whole memory, out of a constructor -/
theorem jn_callVv {C : String} {F : u_T} {N ci : Nat} {fs : List (Option Nat)} {Am : Nat → Nat} (E : XE X cc own nL fr lo) (G : XN X mc ms) (hC : CtV y b n ret fr1 lo1 av σ (r, σ1)) (M : XMV y C b n ret k) (hc : vwCl[ci]? = some (C, F, N)) (hs : shp i = (0, ci, fs)) (hl : Cond.methodLink own index y ∈ xG) (As : List Value) (hav : ∀ ad, av Am ad = .ref (Am i) :: As) (hk : As.length = k) (hst : st0 = As.reverse ++ .ref (Am i) :: st) (hf : fr1 + 1 ≤ fr ∧ 8 + (n + 11) + lo1 ≤ lo) (hroom : cells ≤ mc ∧ slots ≤ ms) (hW : (st.map fun v => v.category).sum ≤ 8) (d : decode cc pc = .ok (.invokevirtual index, 3)) (K : JW X nL (pc + 3) lv st (xw Am (xcy X) σ1) cells slots) : JW X nL pc lv st0 (xw Am (xcy X) σ) cells slots := by
  obtain ⟨p, l, e, R, s, m, args, below, meth, c, ⟨D, Am0, cy, z, ad⟩, A0, Q, ce, sl⟩ := X
  obtain ⟨hx, hb, hml, hown, hts, hK, hA, hAz, hz, hG, hfr, hlo, hcl, hsl⟩ := E
  obtain ⟨g1, g2, g3⟩ := G
  obtain ⟨M1, M2, M3, M4, M5⟩ := M
  intro H locs ls hl1 hP hD hS
  have hF : ∀ q, va_A (xw Am cy σ) H.size q → A0 q := by
    intro q h
    rcases h with ⟨j, ee, hj⟩ | h
    · exact hD.2 j _ hj
    · exact hA q (Nat.le_trans hS.1 h)
  have hpre : ∀ U : State, U.heap = H → s.WarmedH U.vm → xPre D Am cy z ad σ H.size U := fun U hU hW => ⟨by rw [hU], Nat.le_trans hz hS.1, by rw [hU]; exact hP, va_K.moved hW.alike hK, hD.weaken (fun k q _ h => hAz _ h), by rw [hU]; exact XG.warm hW (hG.kept (fun a h1 h2 => hS.2.1 a h1 (fun q => h2 (hAz a q))))⟩
  have hcw : CallW R s args own C index y b n ret (Cond.code y b n ret :: xG) (xRm fr1 lo1) 0 0 k := ⟨callB_of k hts (xGI M4) rfl rfl rfl (hts _ M3) (hts _ hl) M5 ⟨by rw [hfr]; exact hf.1, by rw [hlo]; exact hf.2⟩, hts _ M1, hts _ M2⟩
  have hrun := va_runV (As := As) (rest := st) (g := F0 m pc ls st0) (b := Am i) (H := H) (locs := locs) (cells := cells) (slots := slots) (below := below) (meth := meth) (e := e) ⟨hx, hb, hml, hown, hts⟩ (hC l D Am cy z ad H.size) hcw ⟨xPre.blind, va_recv hK hP hc (xw_at hs (by decide)), fun U hU hW => ⟨by rw [hav], hpre U hU hW⟩⟩ rfl hk hl1.1 hst (lv_room (m := m) (pc := pc) (ls := ls) (rest := st0) hW) d (by rw [g1, g2]; exact hroom)
  refine va_callv hrun hS (fun q _ h => hF q h) hF (fun u t H1 locs1 ht hvm hw hB hz1 hk1 hS => ?_)
  have hw : u = σ1 := hw
  subst hw
  obtain ⟨gP, gK, gD⟩ := hB
  rw [ht] at gP
  exact K H1 locs1 ls hl1 gP (gD.weaken (fun k q _ h => hF _ h)) hS
end JN3

set_option maxRecDepth 100000 in
set_option maxHeartbeats 4000000 in
theorem xmodel_eq (Am : Nat → Nat) (cy : Nat → ClassId) (h0 : Nat) (u : Nat → Nat) {W : va_W} (hW : W = xw85 Am cy ++ [(h0, .inr (10, [.ref (u 0), .ref (u 1), .int 0, .ref (u 2), .ref (u 3), .ref (u 4), .int 0, .ref (u 5), .int 0, .int 0, .ref (u 6), .int 0, .int 0, .int 0, .int 0, .int 0, .ref (u 7), .int 0, .int 0, .int 0, .int 0, .ref (u 8), .ref (u 9), .int 0, .ref (u 10), .ref (u 11), .int 0])), ((u 0), .inl (cy 1, 98, .inl (fun _ => (0 : Int32)))), ((u 1), .inl (cy 1, 784, .inl (fun _ => (0 : Int32)))), ((u 2), .inl (cy 1, 196, .inl (fun _ => (0 : Int32)))), ((u 3), .inl (cy 3, 2, .inl (fun _ => (0 : Int32)))), ((u 4), .inl (cy 1, 6, .inl (fun _ => (0 : Int32)))), ((u 5), .inl (cy 1, 12, .inl (fun _ => (0 : Int32)))), ((u 6), .inl (cy 1, 160, .inl (fun _ => (0 : Int32)))), ((u 7), .inl (cy 1, 56, .inl (fun _ => (0 : Int32)))), ((u 8), .inl (cy 1, 6, .inl (fun _ => (0 : Int32)))), ((u 9), .inl (cy 1, 6, .inl (fun _ => (0 : Int32)))), ((u 10), .inl (cy 1, 6, .inl (fun _ => (0 : Int32)))), ((u 11), .inl (cy 1, 3, .inl (fun _ => (0 : Int32))))]) : W = xw (xam Am h0 u) cy xs0 := by
  subst hW
  refine List.ext_getElem? (fun j => ?_)
  by_cases h1 : j < 85
  · rw [List.getElem?_append_left (by rw [xw85_len]; exact h1), xw85_get h1, xw_get (show j < NC by unfold NC; omega)]
    have e1 : xam Am h0 u j = Am j := if_pos h1
    rw [e1]
    congr 2
    unfold xcell
    exact xcellOf_Am (fun t ht => by have := xrefs85 j h1 t ht; exact (if_pos this).symm)
  · by_cases h2 : j < 98
    · rw [xw_get (show j < NC from h2)]
      obtain ⟨k, rfl⟩ : ∃ k, j = 85 + k := ⟨j - 85, by omega⟩
      rw [ap_get xw85_len]
      have hk : k < 13 := by omega
      rcases (show k = 0 ∨ k = 1 ∨ k = 2 ∨ k = 3 ∨ k = 4 ∨ k = 5 ∨ k = 6 ∨ k = 7 ∨ k = 8 ∨ k = 9 ∨ k = 10 ∨ k = 11 ∨ k = 12 by omega) with rfl | rfl | rfl | rfl | rfl | rfl | rfl | rfl | rfl | rfl | rfl | rfl | rfl <;> rfl
    · rw [List.getElem?_eq_none (by simp [xw85]; omega), List.getElem?_eq_none (by simp [xw, NC]; omega)]
set_option maxRecDepth 100000 in
set_option maxHeartbeats 4000000 in
theorem c_X10_init (Am : Nat → Nat) (h0 : Nat) {N : Nat} {r : Int32} {σ1 : XS} (hE : fX10_empties N xs0 = some (r, σ1)) : CtN yX10_init cX10_init 1 2 46 12 1335 [.ref h0] (fun cy => xw85 Am cy ++ [(h0, .inr (10, [.null, .null, .int 0, .null, .null, .null, .int 0, .null, .int 0, .int 0, .null, .int 0, .int 0, .int 0, .int 0, .int 0, .null, .int 0, .int 0, .int 0, .int 0, .null, .null, .int 0, .null, .null, .int 0]))]) (fun cy u => xw (xam Am h0 u) cy σ1) := by
  refine ct_new (by decide) rfl (Nat.le_of_ble_eq_true rfl) (fun X E G I V => ?_)
  refine (?_ : JW X 1 0 [(0, .ref h0)] [] (xw85 Am (xcy X) ++ [(h0, .inr (10, [.null, .null, .int 0, .null, .null, .null, .int 0, .null, .int 0, .int 0, .null, .int 0, .int 0, .int 0, .int 0, .int 0, .null, .int 0, .int 0, .int 0, .int 0, .null, .null, .int 0, .null, .null, .int 0]))]) 0 0)
  refine jn_aload (pc := 0) rfl 0 rfl E dX10_init_0 ?_
  refine jn_objInit (pc := 1) E (xq 1072 (by decide +kernel) (by decide +kernel)) (xq 81 (by decide +kernel) (by decide +kernel)) (xq 82 (by decide +kernel) (by decide +kernel)) (by decide) dX10_init_1 ?_
  refine jn_aload (pc := 4) rfl 0 rfl E dX10_init_4 ?_
  refine jn_bipush (pc := 5) (v := 98) (by decide) E dX10_init_5 ?_
  refine jn_newa (pc := 7) (atype := .int) (ty := .int) (N := 98) (k := 0) E G (xq 162 (by decide +kernel) (by decide +kernel)) rfl (fun _ => rfl) (fun _ _ h => h) (fun _ => rfl) (by decide) (by decide) (by decide) (by decide) (by decide) dX10_init_7 (fun a1 => ?_)
  refine jn_eq (ws2 := (xw85 Am (xcy X)) ++ [(h0, .inr (10, [.null, .null, .int 0, .null, .null, .null, .int 0, .null, .int 0, .int 0, .null, .int 0, .int 0, .int 0, .int 0, .int 0, .null, .int 0, .int 0, .int 0, .int 0, .null, .null, .int 0, .null, .null, .int 0])), (a1, xz X 1 98)]) (List.append_assoc _ _ _) ?_
  refine jn_putF (pc := 9) (a := h0) (k := 0) (ty := (.array .int)) (ws1 := (xw85 Am (xcy X)) ++ [(h0, .inr (10, [.ref a1, .null, .int 0, .null, .null, .null, .int 0, .null, .int 0, .int 0, .null, .int 0, .int 0, .int 0, .int 0, .int 0, .null, .int 0, .int 0, .int 0, .int 0, .null, .null, .int 0, .null, .null, .int 0])), (a1, xz X 1 98)]) (85 + 0) E I xuX10 tyX10 tyX10_ok nmX10 rfl (ap_get xw85_len) (by decide) (xq 1082 (by decide +kernel) (by decide +kernel)) rfl rfl rfl (by decide +kernel) rfl rfl (Nat.le_of_ble_eq_true rfl) (ap_set xw85_len) dX10_init_9 ?_
  refine jn_aload (pc := 12) rfl 0 rfl E dX10_init_12 ?_
  refine jn_sipush (pc := 13) (v := 784) (by decide) E dX10_init_13 ?_
  refine jn_newa (pc := 16) (atype := .int) (ty := .int) (N := 784) (k := 0) E G (xq 162 (by decide +kernel) (by decide +kernel)) rfl (fun _ => rfl) (fun _ _ h => h) (fun _ => rfl) (by decide) (by decide) (by decide) (by decide) (by decide) dX10_init_16 (fun a2 => ?_)
  refine jn_eq (ws2 := (xw85 Am (xcy X)) ++ [(h0, .inr (10, [.ref a1, .null, .int 0, .null, .null, .null, .int 0, .null, .int 0, .int 0, .null, .int 0, .int 0, .int 0, .int 0, .int 0, .null, .int 0, .int 0, .int 0, .int 0, .null, .null, .int 0, .null, .null, .int 0])), (a1, xz X 1 98), (a2, xz X 1 784)]) (List.append_assoc _ _ _) ?_
  refine jn_putF (pc := 18) (a := h0) (k := 1) (ty := (.array .int)) (ws1 := (xw85 Am (xcy X)) ++ [(h0, .inr (10, [.ref a1, .ref a2, .int 0, .null, .null, .null, .int 0, .null, .int 0, .int 0, .null, .int 0, .int 0, .int 0, .int 0, .int 0, .null, .int 0, .int 0, .int 0, .int 0, .null, .null, .int 0, .null, .null, .int 0])), (a1, xz X 1 98), (a2, xz X 1 784)]) (85 + 0) E I xuX10 tyX10 tyX10_ok nmX10 rfl (ap_get xw85_len) (by decide) (xq 1083 (by decide +kernel) (by decide +kernel)) rfl rfl rfl (by decide +kernel) rfl rfl (Nat.le_of_ble_eq_true rfl) (ap_set xw85_len) dX10_init_18 ?_
  refine jn_aload (pc := 21) rfl 0 rfl E dX10_init_21 ?_
  refine jn_sipush (pc := 22) (v := 196) (by decide) E dX10_init_22 ?_
  refine jn_newa (pc := 25) (atype := .int) (ty := .int) (N := 196) (k := 0) E G (xq 162 (by decide +kernel) (by decide +kernel)) rfl (fun _ => rfl) (fun _ _ h => h) (fun _ => rfl) (by decide) (by decide) (by decide) (by decide) (by decide) dX10_init_25 (fun a3 => ?_)
  refine jn_eq (ws2 := (xw85 Am (xcy X)) ++ [(h0, .inr (10, [.ref a1, .ref a2, .int 0, .null, .null, .null, .int 0, .null, .int 0, .int 0, .null, .int 0, .int 0, .int 0, .int 0, .int 0, .null, .int 0, .int 0, .int 0, .int 0, .null, .null, .int 0, .null, .null, .int 0])), (a1, xz X 1 98), (a2, xz X 1 784), (a3, xz X 1 196)]) (List.append_assoc _ _ _) ?_
  refine jn_putF (pc := 27) (a := h0) (k := 3) (ty := (.array .int)) (ws1 := (xw85 Am (xcy X)) ++ [(h0, .inr (10, [.ref a1, .ref a2, .int 0, .ref a3, .null, .null, .int 0, .null, .int 0, .int 0, .null, .int 0, .int 0, .int 0, .int 0, .int 0, .null, .int 0, .int 0, .int 0, .int 0, .null, .null, .int 0, .null, .null, .int 0])), (a1, xz X 1 98), (a2, xz X 1 784), (a3, xz X 1 196)]) (85 + 0) E I xuX10 tyX10 tyX10_ok nmX10 rfl (ap_get xw85_len) (by decide) (xq 1085 (by decide +kernel) (by decide +kernel)) rfl rfl rfl (by decide +kernel) rfl rfl (Nat.le_of_ble_eq_true rfl) (ap_set xw85_len) dX10_init_27 ?_
  refine jn_aload (pc := 30) rfl 0 rfl E dX10_init_30 ?_
  refine jn_iconst (pc := 31) (v := 2) (by decide) E dX10_init_31 ?_
  refine jn_newa (pc := 32) (atype := .boolean) (ty := .boolean) (N := 2) (k := 2) E G (xq 232 (by decide +kernel) (by decide +kernel)) rfl (fun _ => rfl) (fun _ _ h => h) (fun _ => rfl) (by decide) (by decide) (by decide) (by decide) (by decide) dX10_init_32 (fun a4 => ?_)
  refine jn_eq (ws2 := (xw85 Am (xcy X)) ++ [(h0, .inr (10, [.ref a1, .ref a2, .int 0, .ref a3, .null, .null, .int 0, .null, .int 0, .int 0, .null, .int 0, .int 0, .int 0, .int 0, .int 0, .null, .int 0, .int 0, .int 0, .int 0, .null, .null, .int 0, .null, .null, .int 0])), (a1, xz X 1 98), (a2, xz X 1 784), (a3, xz X 1 196), (a4, xz X 3 2)]) (List.append_assoc _ _ _) ?_
  refine jn_putF (pc := 34) (a := h0) (k := 4) (ty := (.array .boolean)) (ws1 := (xw85 Am (xcy X)) ++ [(h0, .inr (10, [.ref a1, .ref a2, .int 0, .ref a3, .ref a4, .null, .int 0, .null, .int 0, .int 0, .null, .int 0, .int 0, .int 0, .int 0, .int 0, .null, .int 0, .int 0, .int 0, .int 0, .null, .null, .int 0, .null, .null, .int 0])), (a1, xz X 1 98), (a2, xz X 1 784), (a3, xz X 1 196), (a4, xz X 3 2)]) (85 + 0) E I xuX10 tyX10 tyX10_ok nmX10 rfl (ap_get xw85_len) (by decide) (xq 1086 (by decide +kernel) (by decide +kernel)) rfl rfl rfl (by decide +kernel) rfl rfl (Nat.le_of_ble_eq_true rfl) (ap_set xw85_len) dX10_init_34 ?_
  refine jn_aload (pc := 37) rfl 0 rfl E dX10_init_37 ?_
  refine jn_bipush (pc := 38) (v := 6) (by decide) E dX10_init_38 ?_
  refine jn_newa (pc := 40) (atype := .int) (ty := .int) (N := 6) (k := 0) E G (xq 162 (by decide +kernel) (by decide +kernel)) rfl (fun _ => rfl) (fun _ _ h => h) (fun _ => rfl) (by decide) (by decide) (by decide) (by decide) (by decide) dX10_init_40 (fun a5 => ?_)
  refine jn_eq (ws2 := (xw85 Am (xcy X)) ++ [(h0, .inr (10, [.ref a1, .ref a2, .int 0, .ref a3, .ref a4, .null, .int 0, .null, .int 0, .int 0, .null, .int 0, .int 0, .int 0, .int 0, .int 0, .null, .int 0, .int 0, .int 0, .int 0, .null, .null, .int 0, .null, .null, .int 0])), (a1, xz X 1 98), (a2, xz X 1 784), (a3, xz X 1 196), (a4, xz X 3 2), (a5, xz X 1 6)]) (List.append_assoc _ _ _) ?_
  refine jn_putF (pc := 42) (a := h0) (k := 5) (ty := (.array .int)) (ws1 := (xw85 Am (xcy X)) ++ [(h0, .inr (10, [.ref a1, .ref a2, .int 0, .ref a3, .ref a4, .ref a5, .int 0, .null, .int 0, .int 0, .null, .int 0, .int 0, .int 0, .int 0, .int 0, .null, .int 0, .int 0, .int 0, .int 0, .null, .null, .int 0, .null, .null, .int 0])), (a1, xz X 1 98), (a2, xz X 1 784), (a3, xz X 1 196), (a4, xz X 3 2), (a5, xz X 1 6)]) (85 + 0) E I xuX10 tyX10 tyX10_ok nmX10 rfl (ap_get xw85_len) (by decide) (xq 1087 (by decide +kernel) (by decide +kernel)) rfl rfl rfl (by decide +kernel) rfl rfl (Nat.le_of_ble_eq_true rfl) (ap_set xw85_len) dX10_init_42 ?_
  refine jn_aload (pc := 45) rfl 0 rfl E dX10_init_45 ?_
  refine jn_bipush (pc := 46) (v := 12) (by decide) E dX10_init_46 ?_
  refine jn_newa (pc := 48) (atype := .int) (ty := .int) (N := 12) (k := 0) E G (xq 162 (by decide +kernel) (by decide +kernel)) rfl (fun _ => rfl) (fun _ _ h => h) (fun _ => rfl) (by decide) (by decide) (by decide) (by decide) (by decide) dX10_init_48 (fun a6 => ?_)
  refine jn_eq (ws2 := (xw85 Am (xcy X)) ++ [(h0, .inr (10, [.ref a1, .ref a2, .int 0, .ref a3, .ref a4, .ref a5, .int 0, .null, .int 0, .int 0, .null, .int 0, .int 0, .int 0, .int 0, .int 0, .null, .int 0, .int 0, .int 0, .int 0, .null, .null, .int 0, .null, .null, .int 0])), (a1, xz X 1 98), (a2, xz X 1 784), (a3, xz X 1 196), (a4, xz X 3 2), (a5, xz X 1 6), (a6, xz X 1 12)]) (List.append_assoc _ _ _) ?_
  refine jn_putF (pc := 50) (a := h0) (k := 7) (ty := (.array .int)) (ws1 := (xw85 Am (xcy X)) ++ [(h0, .inr (10, [.ref a1, .ref a2, .int 0, .ref a3, .ref a4, .ref a5, .int 0, .ref a6, .int 0, .int 0, .null, .int 0, .int 0, .int 0, .int 0, .int 0, .null, .int 0, .int 0, .int 0, .int 0, .null, .null, .int 0, .null, .null, .int 0])), (a1, xz X 1 98), (a2, xz X 1 784), (a3, xz X 1 196), (a4, xz X 3 2), (a5, xz X 1 6), (a6, xz X 1 12)]) (85 + 0) E I xuX10 tyX10 tyX10_ok nmX10 rfl (ap_get xw85_len) (by decide) (xq 1089 (by decide +kernel) (by decide +kernel)) rfl rfl rfl (by decide +kernel) rfl rfl (Nat.le_of_ble_eq_true rfl) (ap_set xw85_len) dX10_init_50 ?_
  refine jn_aload (pc := 53) rfl 0 rfl E dX10_init_53 ?_
  refine jn_sipush (pc := 54) (v := 160) (by decide) E dX10_init_54 ?_
  refine jn_newa (pc := 57) (atype := .int) (ty := .int) (N := 160) (k := 0) E G (xq 162 (by decide +kernel) (by decide +kernel)) rfl (fun _ => rfl) (fun _ _ h => h) (fun _ => rfl) (by decide) (by decide) (by decide) (by decide) (by decide) dX10_init_57 (fun a7 => ?_)
  refine jn_eq (ws2 := (xw85 Am (xcy X)) ++ [(h0, .inr (10, [.ref a1, .ref a2, .int 0, .ref a3, .ref a4, .ref a5, .int 0, .ref a6, .int 0, .int 0, .null, .int 0, .int 0, .int 0, .int 0, .int 0, .null, .int 0, .int 0, .int 0, .int 0, .null, .null, .int 0, .null, .null, .int 0])), (a1, xz X 1 98), (a2, xz X 1 784), (a3, xz X 1 196), (a4, xz X 3 2), (a5, xz X 1 6), (a6, xz X 1 12), (a7, xz X 1 160)]) (List.append_assoc _ _ _) ?_
  refine jn_putF (pc := 59) (a := h0) (k := 10) (ty := (.array .int)) (ws1 := (xw85 Am (xcy X)) ++ [(h0, .inr (10, [.ref a1, .ref a2, .int 0, .ref a3, .ref a4, .ref a5, .int 0, .ref a6, .int 0, .int 0, .ref a7, .int 0, .int 0, .int 0, .int 0, .int 0, .null, .int 0, .int 0, .int 0, .int 0, .null, .null, .int 0, .null, .null, .int 0])), (a1, xz X 1 98), (a2, xz X 1 784), (a3, xz X 1 196), (a4, xz X 3 2), (a5, xz X 1 6), (a6, xz X 1 12), (a7, xz X 1 160)]) (85 + 0) E I xuX10 tyX10 tyX10_ok nmX10 rfl (ap_get xw85_len) (by decide) (xq 1092 (by decide +kernel) (by decide +kernel)) rfl rfl rfl (by decide +kernel) rfl rfl (Nat.le_of_ble_eq_true rfl) (ap_set xw85_len) dX10_init_59 ?_
  refine jn_aload (pc := 62) rfl 0 rfl E dX10_init_62 ?_
  refine jn_bipush (pc := 63) (v := 56) (by decide) E dX10_init_63 ?_
  refine jn_newa (pc := 65) (atype := .int) (ty := .int) (N := 56) (k := 0) E G (xq 162 (by decide +kernel) (by decide +kernel)) rfl (fun _ => rfl) (fun _ _ h => h) (fun _ => rfl) (by decide) (by decide) (by decide) (by decide) (by decide) dX10_init_65 (fun a8 => ?_)
  refine jn_eq (ws2 := (xw85 Am (xcy X)) ++ [(h0, .inr (10, [.ref a1, .ref a2, .int 0, .ref a3, .ref a4, .ref a5, .int 0, .ref a6, .int 0, .int 0, .ref a7, .int 0, .int 0, .int 0, .int 0, .int 0, .null, .int 0, .int 0, .int 0, .int 0, .null, .null, .int 0, .null, .null, .int 0])), (a1, xz X 1 98), (a2, xz X 1 784), (a3, xz X 1 196), (a4, xz X 3 2), (a5, xz X 1 6), (a6, xz X 1 12), (a7, xz X 1 160), (a8, xz X 1 56)]) (List.append_assoc _ _ _) ?_
  refine jn_putF (pc := 67) (a := h0) (k := 16) (ty := (.array .int)) (ws1 := (xw85 Am (xcy X)) ++ [(h0, .inr (10, [.ref a1, .ref a2, .int 0, .ref a3, .ref a4, .ref a5, .int 0, .ref a6, .int 0, .int 0, .ref a7, .int 0, .int 0, .int 0, .int 0, .int 0, .ref a8, .int 0, .int 0, .int 0, .int 0, .null, .null, .int 0, .null, .null, .int 0])), (a1, xz X 1 98), (a2, xz X 1 784), (a3, xz X 1 196), (a4, xz X 3 2), (a5, xz X 1 6), (a6, xz X 1 12), (a7, xz X 1 160), (a8, xz X 1 56)]) (85 + 0) E I xuX10 tyX10 tyX10_ok nmX10 rfl (ap_get xw85_len) (by decide) (xq 1098 (by decide +kernel) (by decide +kernel)) rfl rfl rfl (by decide +kernel) rfl rfl (Nat.le_of_ble_eq_true rfl) (ap_set xw85_len) dX10_init_67 ?_
  refine jn_aload (pc := 70) rfl 0 rfl E dX10_init_70 ?_
  refine jn_bipush (pc := 71) (v := 6) (by decide) E dX10_init_71 ?_
  refine jn_newa (pc := 73) (atype := .int) (ty := .int) (N := 6) (k := 0) E G (xq 162 (by decide +kernel) (by decide +kernel)) rfl (fun _ => rfl) (fun _ _ h => h) (fun _ => rfl) (by decide) (by decide) (by decide) (by decide) (by decide) dX10_init_73 (fun a9 => ?_)
  refine jn_eq (ws2 := (xw85 Am (xcy X)) ++ [(h0, .inr (10, [.ref a1, .ref a2, .int 0, .ref a3, .ref a4, .ref a5, .int 0, .ref a6, .int 0, .int 0, .ref a7, .int 0, .int 0, .int 0, .int 0, .int 0, .ref a8, .int 0, .int 0, .int 0, .int 0, .null, .null, .int 0, .null, .null, .int 0])), (a1, xz X 1 98), (a2, xz X 1 784), (a3, xz X 1 196), (a4, xz X 3 2), (a5, xz X 1 6), (a6, xz X 1 12), (a7, xz X 1 160), (a8, xz X 1 56), (a9, xz X 1 6)]) (List.append_assoc _ _ _) ?_
  refine jn_putF (pc := 75) (a := h0) (k := 21) (ty := (.array .int)) (ws1 := (xw85 Am (xcy X)) ++ [(h0, .inr (10, [.ref a1, .ref a2, .int 0, .ref a3, .ref a4, .ref a5, .int 0, .ref a6, .int 0, .int 0, .ref a7, .int 0, .int 0, .int 0, .int 0, .int 0, .ref a8, .int 0, .int 0, .int 0, .int 0, .ref a9, .null, .int 0, .null, .null, .int 0])), (a1, xz X 1 98), (a2, xz X 1 784), (a3, xz X 1 196), (a4, xz X 3 2), (a5, xz X 1 6), (a6, xz X 1 12), (a7, xz X 1 160), (a8, xz X 1 56), (a9, xz X 1 6)]) (85 + 0) E I xuX10 tyX10 tyX10_ok nmX10 rfl (ap_get xw85_len) (by decide) (xq 1103 (by decide +kernel) (by decide +kernel)) rfl rfl rfl (by decide +kernel) rfl rfl (Nat.le_of_ble_eq_true rfl) (ap_set xw85_len) dX10_init_75 ?_
  refine jn_aload (pc := 78) rfl 0 rfl E dX10_init_78 ?_
  refine jn_bipush (pc := 79) (v := 6) (by decide) E dX10_init_79 ?_
  refine jn_newa (pc := 81) (atype := .int) (ty := .int) (N := 6) (k := 0) E G (xq 162 (by decide +kernel) (by decide +kernel)) rfl (fun _ => rfl) (fun _ _ h => h) (fun _ => rfl) (by decide) (by decide) (by decide) (by decide) (by decide) dX10_init_81 (fun a10 => ?_)
  refine jn_eq (ws2 := (xw85 Am (xcy X)) ++ [(h0, .inr (10, [.ref a1, .ref a2, .int 0, .ref a3, .ref a4, .ref a5, .int 0, .ref a6, .int 0, .int 0, .ref a7, .int 0, .int 0, .int 0, .int 0, .int 0, .ref a8, .int 0, .int 0, .int 0, .int 0, .ref a9, .null, .int 0, .null, .null, .int 0])), (a1, xz X 1 98), (a2, xz X 1 784), (a3, xz X 1 196), (a4, xz X 3 2), (a5, xz X 1 6), (a6, xz X 1 12), (a7, xz X 1 160), (a8, xz X 1 56), (a9, xz X 1 6), (a10, xz X 1 6)]) (List.append_assoc _ _ _) ?_
  refine jn_putF (pc := 83) (a := h0) (k := 22) (ty := (.array .int)) (ws1 := (xw85 Am (xcy X)) ++ [(h0, .inr (10, [.ref a1, .ref a2, .int 0, .ref a3, .ref a4, .ref a5, .int 0, .ref a6, .int 0, .int 0, .ref a7, .int 0, .int 0, .int 0, .int 0, .int 0, .ref a8, .int 0, .int 0, .int 0, .int 0, .ref a9, .ref a10, .int 0, .null, .null, .int 0])), (a1, xz X 1 98), (a2, xz X 1 784), (a3, xz X 1 196), (a4, xz X 3 2), (a5, xz X 1 6), (a6, xz X 1 12), (a7, xz X 1 160), (a8, xz X 1 56), (a9, xz X 1 6), (a10, xz X 1 6)]) (85 + 0) E I xuX10 tyX10 tyX10_ok nmX10 rfl (ap_get xw85_len) (by decide) (xq 1104 (by decide +kernel) (by decide +kernel)) rfl rfl rfl (by decide +kernel) rfl rfl (Nat.le_of_ble_eq_true rfl) (ap_set xw85_len) dX10_init_83 ?_
  refine jn_aload (pc := 86) rfl 0 rfl E dX10_init_86 ?_
  refine jn_bipush (pc := 87) (v := 6) (by decide) E dX10_init_87 ?_
  refine jn_newa (pc := 89) (atype := .int) (ty := .int) (N := 6) (k := 0) E G (xq 162 (by decide +kernel) (by decide +kernel)) rfl (fun _ => rfl) (fun _ _ h => h) (fun _ => rfl) (by decide) (by decide) (by decide) (by decide) (by decide) dX10_init_89 (fun a11 => ?_)
  refine jn_eq (ws2 := (xw85 Am (xcy X)) ++ [(h0, .inr (10, [.ref a1, .ref a2, .int 0, .ref a3, .ref a4, .ref a5, .int 0, .ref a6, .int 0, .int 0, .ref a7, .int 0, .int 0, .int 0, .int 0, .int 0, .ref a8, .int 0, .int 0, .int 0, .int 0, .ref a9, .ref a10, .int 0, .null, .null, .int 0])), (a1, xz X 1 98), (a2, xz X 1 784), (a3, xz X 1 196), (a4, xz X 3 2), (a5, xz X 1 6), (a6, xz X 1 12), (a7, xz X 1 160), (a8, xz X 1 56), (a9, xz X 1 6), (a10, xz X 1 6), (a11, xz X 1 6)]) (List.append_assoc _ _ _) ?_
  refine jn_putF (pc := 91) (a := h0) (k := 24) (ty := (.array .int)) (ws1 := (xw85 Am (xcy X)) ++ [(h0, .inr (10, [.ref a1, .ref a2, .int 0, .ref a3, .ref a4, .ref a5, .int 0, .ref a6, .int 0, .int 0, .ref a7, .int 0, .int 0, .int 0, .int 0, .int 0, .ref a8, .int 0, .int 0, .int 0, .int 0, .ref a9, .ref a10, .int 0, .ref a11, .null, .int 0])), (a1, xz X 1 98), (a2, xz X 1 784), (a3, xz X 1 196), (a4, xz X 3 2), (a5, xz X 1 6), (a6, xz X 1 12), (a7, xz X 1 160), (a8, xz X 1 56), (a9, xz X 1 6), (a10, xz X 1 6), (a11, xz X 1 6)]) (85 + 0) E I xuX10 tyX10 tyX10_ok nmX10 rfl (ap_get xw85_len) (by decide) (xq 1106 (by decide +kernel) (by decide +kernel)) rfl rfl rfl (by decide +kernel) rfl rfl (Nat.le_of_ble_eq_true rfl) (ap_set xw85_len) dX10_init_91 ?_
  refine jn_aload (pc := 94) rfl 0 rfl E dX10_init_94 ?_
  refine jn_iconst (pc := 95) (v := 3) (by decide) E dX10_init_95 ?_
  refine jn_newa (pc := 96) (atype := .int) (ty := .int) (N := 3) (k := 0) E G (xq 162 (by decide +kernel) (by decide +kernel)) rfl (fun _ => rfl) (fun _ _ h => h) (fun _ => rfl) (by decide) (by decide) (by decide) (by decide) (by decide) dX10_init_96 (fun a12 => ?_)
  refine jn_eq (ws2 := (xw85 Am (xcy X)) ++ [(h0, .inr (10, [.ref a1, .ref a2, .int 0, .ref a3, .ref a4, .ref a5, .int 0, .ref a6, .int 0, .int 0, .ref a7, .int 0, .int 0, .int 0, .int 0, .int 0, .ref a8, .int 0, .int 0, .int 0, .int 0, .ref a9, .ref a10, .int 0, .ref a11, .null, .int 0])), (a1, xz X 1 98), (a2, xz X 1 784), (a3, xz X 1 196), (a4, xz X 3 2), (a5, xz X 1 6), (a6, xz X 1 12), (a7, xz X 1 160), (a8, xz X 1 56), (a9, xz X 1 6), (a10, xz X 1 6), (a11, xz X 1 6), (a12, xz X 1 3)]) (List.append_assoc _ _ _) ?_
  refine jn_putF (pc := 98) (a := h0) (k := 25) (ty := (.array .int)) (ws1 := (xw85 Am (xcy X)) ++ [(h0, .inr (10, [.ref a1, .ref a2, .int 0, .ref a3, .ref a4, .ref a5, .int 0, .ref a6, .int 0, .int 0, .ref a7, .int 0, .int 0, .int 0, .int 0, .int 0, .ref a8, .int 0, .int 0, .int 0, .int 0, .ref a9, .ref a10, .int 0, .ref a11, .ref a12, .int 0])), (a1, xz X 1 98), (a2, xz X 1 784), (a3, xz X 1 196), (a4, xz X 3 2), (a5, xz X 1 6), (a6, xz X 1 12), (a7, xz X 1 160), (a8, xz X 1 56), (a9, xz X 1 6), (a10, xz X 1 6), (a11, xz X 1 6), (a12, xz X 1 3)]) (85 + 0) E I xuX10 tyX10 tyX10_ok nmX10 rfl (ap_get xw85_len) (by decide) (xq 1107 (by decide +kernel) (by decide +kernel)) rfl rfl rfl (by decide +kernel) rfl rfl (Nat.le_of_ble_eq_true rfl) (ap_set xw85_len) dX10_init_98 ?_
  refine jn_aload (pc := 101) rfl 0 rfl E dX10_init_101 ?_
  refine jn_eq (ws2 := xw (xam Am h0 (fun k => ([a1, a2, a3, a4, a5, a6, a7, a8, a9, a10, a11, a12] : List Nat).getD k 0)) (xcy X) xs0) (xmodel_eq _ _ _ _ rfl) ?_
  refine jn_callVv (pc := 102) (i := 85) (st := []) (r := r) (σ1 := σ1) E G (kX10_empties hE) mv_X10_empties rfl s_85 (xq 1073 (by decide +kernel) (by decide +kernel)) [] (fun _ => rfl) rfl rfl (by decide) (by decide) (Nat.le_of_ble_eq_true rfl) dX10_init_102 ?_
  exact V _ _ _ (fun k => ([a1, a2, a3, a4, a5, a6, a7, a8, a9, a10, a11, a12] : List Nat).getD k 0) dX10_init_105
