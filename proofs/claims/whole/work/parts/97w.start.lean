/-! THE CLAIM OUT OF ONE WALK OF THE LAW'S BODY. Your part is whole_start (and what it stands on); all else here is the same for every law, but numbers. -/
def R_law : String := "VerseCustomsLaw"
def lw_P (b : Addr) (xs : List Int32) (args : Array Value) (s : State) : Prop := args = #[.ref b] ∧ s.IntsAt b xs ∧ xs.length ≤ 2560 ∧ (Jvm.Cond.and given_1 narrow_1).before args s = true
def lw_Q (_ : Array Value) (s : State) (o : Outcome) (t : State) : Prop := o = .returned (some (.int 1)) ∧ Framed s o t [] 600000 7302250
def lw_Z (below : List Frame) (a : Array Value) (s : State) : State → Prop := fun t => ∃ o, t.status = .running ∧ Ended t below o ∧ lw_Q a s o t
/-- the law's own end, with 1 on the stack, nothing written that was there before, its room as the claim has it -/
theorem lw_ret {p : Program} {l : Launch} {e : Env} {s : State} {m : MethodId} {below : List Frame} {meth : Method} {c : Code} {b : Nat} (hx : p.tables.exec = Jvm.exec) (hb : c.code = code) (hr : meth.sig.returnType = ret) (hlocks : meth.locks = false) {pc : Nat} {H : Heap} {ls : Array Slot} (hdg : decode code pc = .ok (.ireturn, 1)) : W p l e room_1 s m #[Value.ref b] below meth c H [] 600000 7302250 (lw_Z below #[Value.ref b] s) (F0 m pc ls [.int 1]) := by
  intro T hT X
  obtain ⟨fs, hret, hrun, hended, hW, hframe⟩ := X.leave (v := some (.int 1)) (hlocks := hlocks) (fun h => by rw [hr] at h; cases h)
  have hmeth' : T.vm.method? m = some meth := X.method'
  refine ⟨T.setFrames fs, ?_, .returned (some (.int 1)), hrun, hended, rfl, ⟨_, rfl⟩, hW, hframe⟩
  jvm_step X.here [X.here.top, hx, hb, hdg, hmeth', hr, ret, narrow_b1]
  (try refine ⟨rfl, ?_⟩); (try refine ⟨rfl, ?_⟩)
  first | (intro acts; rw [hret _ acts rfl rfl rfl]) | rw [hret _ _ rfl rfl rfl]
  exact Steps.refl _
/-- what holds at the law's entry: the machine, the code, the tables' words (any of lw_tbl by 'hts w (by decide +kernel)'), the script of L ints xs at the cell b, what the Statement gives of the start (any of its parts by flat_of_before) -/
def lw_At (p : Program) (s : State) (m : MethodId) (meth : Method) (c : Code) (b L : Nat) (xs : Nat → Int32) : Prop :=
  p.tables.exec = Jvm.exec ∧ c.code = code ∧ meth.sig.returnType = ret ∧ c.maxLocals = 4 ∧ s.vm.findClass R_law = some m.cls ∧ (∀ w ∈ lw_tbl, w.before #[Value.ref b] s = true) ∧ va_X b L xs s s.heap ∧ b < s.heap.size ∧ meth.locks = false ∧ (Jvm.Cond.and given_1 narrow_1).before #[Value.ref b] s = true
/-! THE LAW FROM ITS ENTRY: the constants, both constructors, then the loop; open in what the 36 calls keep -/
theorem xarr {s : State} {args : Array Value} {ty : FieldType} (h : (Cond.arrayClass ty).before args s = true) : ∃ c, ArrOfT s c ty ∧ s.vm.findClass ("[" ++ ty.toString) = some c := by
  obtain ⟨c, k, comp, h1, h2, h3⟩ := Cond.arrayClass_spec (first := s) (o := none) (idx := []) h
  exact ⟨c, fun n z => ⟨(fun _ q => by cases q), k, h2, comp, h3⟩, h1⟩
theorem xarr2 {s : State} {args : Array Value} {ty : FieldType} (h : (Cond.arrayOver (.array ty)).before args s = true) : ∃ c, ArrOfT s c (.array ty) ∧ s.vm.findClass ("[" ++ (FieldType.array ty).toString) = some c := by
  have h : (Cond.arrayOver (.array ty)).holds args s none s [] = true := h
  simp only [Cond.holds, Cond.value, beq_iff_eq] at h
  cases hc : s.vm.findClass (FieldType.array ty).toString with
  | none => simp [hc] at h
  | some comp =>
    simp only [hc, Option.bind_some, Option.bind_eq_some_iff, Option.map_eq_some_iff] at h
    obtain ⟨c, hi, k, hk, hb⟩ := h
    cases hkind : k.kind with
    | array component t =>
      rw [hkind] at hb
      simp at hb
      exact ⟨c, fun n z => ⟨(fun _ q => by cases q), k, hk, component, by rw [hkind, hb.1]⟩, hb.2⟩
    | _ => rw [hkind] at hb; simp at hb
/-- the constants, out of what the Statement gives of the start -/
abbrev xgiven : List Jvm.Cond := flatC (Jvm.Cond.and given_1 narrow_1)
abbrev xstr (k : Nat) : Term := Term.string "VerseCustoms$Text" (126 + 2 * k)
theorem xs_ex : ∀ i, i < 20 → Cond.exactly (xstr i) "java/lang/String" ∈ xgiven := by decide +kernel
theorem xs_co : ∀ i, i < 20 → Cond.eq (.field (xstr i) "java/lang/String" "coder" "B") (.int 0) ∈ xgiven := by decide +kernel
theorem xs_ar : ∀ i, i < 20 → Cond.arrayOf (.field (xstr i) "java/lang/String" "value" "[B") .byte ∈ xgiven := by decide +kernel
theorem xs_le : ∀ i, i < 20 → Cond.eq (.length (.field (xstr i) "java/lang/String" "value" "[B")) (.int (Int32.ofNat (xlenS.getD i 0))) ∈ xgiven := by decide +kernel
theorem xs_el : ∀ i, i < 20 → ∀ j, j < xlenS.getD i 0 → Cond.eq (.elem (.field (xstr i) "java/lang/String" "value" "[B") (.int (Int32.ofNat j))) (.int ((xbytS.getD i []).getD j 0)) ∈ xgiven := by decide +kernel
def xisN : Cond → Bool
  | .not _ => true
  | _ => false
def xnePairs : List Cond := (List.range 20).flatMap (fun j => (List.range j).map (fun i => Cond.not (Cond.eq (xstr i) (xstr j))))
theorem xs_neL : (xgiven.filter xisN).take 190 = xnePairs := by decide +kernel
theorem xs_ne0 (i j : Nat) (hi : i < j) (hj : j < 20) : Cond.not (Cond.eq (xstr i) (xstr j)) ∈ xgiven := by
  have h : Cond.not (Cond.eq (xstr i) (xstr j)) ∈ xnePairs := List.mem_flatMap.mpr ⟨j, List.mem_range.mpr hj, List.mem_map.mpr ⟨i, List.mem_range.mpr hi, rfl⟩⟩
  rw [← xs_neL] at h
  exact (List.mem_filter.mp (List.mem_of_mem_take h)).1
theorem xs_ne (i : Nat) (hi : i < 20) (j : Nat) (hj : j < 20) (h : i ≠ j) : (Cond.not (Cond.eq (xstr i) (xstr j)) ∈ xgiven ∨ Cond.not (Cond.eq (xstr j) (xstr i)) ∈ xgiven) := by
  rcases Nat.lt_or_gt_of_ne h with h | h
  · exact Or.inl (xs_ne0 i j h hj)
  · exact Or.inr (xs_ne0 j i h hi)
theorem xs_sr : ∀ i, i < 20 → Cond.stringRef "VerseCustoms$Text" (126 + 2 * i) (xtxtS.getD i "") ∈ lw_tbl := by decide +kernel
theorem xs_len : ∀ i, i < 20 → xlenS.getD i 0 < 2 ^ 31 := by decide +kernel
theorem xw_ar : Cond.arrayOf (.static "VerseCustoms" "WORD_IS" "[I") .int ∈ xgiven ∧ Cond.eq (.length (.static "VerseCustoms" "WORD_IS" "[I")) (.int (Int32.ofNat 4)) ∈ xgiven := by decide +kernel
theorem xw_el : ∀ j, j < 4 → Cond.eq (.elem (.static "VerseCustoms" "WORD_IS" "[I") (.int (Int32.ofNat j))) (.int (([3, 7, 9, 25] : List Int32).getD j 0)) ∈ xgiven := by decide +kernel
theorem xc_ar : Cond.arrayOf (.static "VerseCustoms" "CLERK_IS" "[I") .int ∈ xgiven ∧ Cond.eq (.length (.static "VerseCustoms" "CLERK_IS" "[I")) (.int (Int32.ofNat 3)) ∈ xgiven := by decide +kernel
theorem xc_el : ∀ j, j < 3 → Cond.eq (.elem (.static "VerseCustoms" "CLERK_IS" "[I") (.int (Int32.ofNat j))) (.int (([3, 5, 11] : List Int32).getD j 0)) ∈ xgiven := by decide +kernel
theorem xo_st : Cond.eq (.static "java/lang/String" "COMPACT_STRINGS" "Z") (.int 1) ∈ xgiven ∧ Cond.isRef (.static "jdk/internal/util/Preconditions" "SIOOBE_FORMATTER" "Ljava/util/function/BiFunction;") ∈ xgiven := by decide +kernel
theorem xl_st : (Cond.laysStatic "java/lang/String" "COMPACT_STRINGS" "Z" ∈ lw_tbl ∧ Cond.laysStatic "jdk/internal/util/Preconditions" "SIOOBE_FORMATTER" "Ljava/util/function/BiFunction;" ∈ lw_tbl) ∧ (Cond.laysStatic "VerseCustoms" "WORD_IS" "[I" ∈ lw_tbl ∧ Cond.laysStatic "VerseCustoms" "CLERK_IS" "[I" ∈ lw_tbl) ∧ (Cond.initialized "java/lang/String" ∈ lw_tbl ∧ Cond.initialized "jdk/internal/util/Preconditions" ∈ lw_tbl ∧ Cond.initialized "VerseCustoms" ∈ lw_tbl) := by decide +kernel
theorem xn_st : ∀ q ∈ xNestL, Cond.methodLinkNest q.1 q.2.1 q.2.2 "VerseCustoms" ∈ lw_tbl := by decide +kernel
theorem xk_st : Cond.arrayClass .int ∈ lw_tbl ∧ Cond.arrayClass .char ∈ lw_tbl ∧ Cond.arrayClass .boolean ∈ lw_tbl ∧ Cond.arrayOver (.array .int) ∈ lw_tbl := by decide +kernel
set_option maxRecDepth 100000 in
set_option maxHeartbeats 4000000 in
theorem xG_at {s : State} {args : Array Value} (hts : ∀ w ∈ lw_tbl, w.before args s = true) (hg : ∀ w ∈ xgiven, w.before args s = true) : ∃ ad : Nat → Nat, XG s.heap.size ad s s.heap := by
  have hA : ∀ a : Nat, a < s.heap.size → ¬ s.heap.size ≤ a := fun a h => by omega
  obtain ⟨adK, adV, hS, hR⟩ := vk_Sof (args := args) (s := s) (N := 20) (tm := xstr) (len := xlenS) (byt := xbytS) (A := fun q => s.heap.size ≤ q) xs_len (fun i hi => hg _ (xs_ex i hi)) (fun i hi => hg _ (xs_co i hi)) (fun i hi => hg _ (xs_ar i hi)) (fun i hi => hg _ (xs_le i hi)) (fun i hi j hj => hg _ (xs_el i hi j hj)) (fun i j hi hj h => (xs_ne i hi j hj h).imp (hg _) (hg _)) hA
  obtain ⟨tW, eW, hW⟩ := va_Tof (args := args) (s := s) (tm := .static "VerseCustoms" "WORD_IS" "[I") (ty := .int) (N := 4) (f := fun j => .int (([3, 7, 9, 25] : List Int32).getD j 0)) (A := fun q => s.heap.size ≤ q) (by decide) (hg _ xw_ar.1) (va_eqt (hg _ xw_ar.2)) (fun j hj => va_eqt (hg _ (xw_el j hj))) hA
  obtain ⟨tC, eC, hC⟩ := va_Tof (args := args) (s := s) (tm := .static "VerseCustoms" "CLERK_IS" "[I") (ty := .int) (N := 3) (f := fun j => .int (([3, 5, 11] : List Int32).getD j 0)) (A := fun q => s.heap.size ≤ q) (by decide) (hg _ xc_ar.1) (va_eqt (hg _ xc_ar.2)) (fun j hj => va_eqt (hg _ (xc_el j hj))) hA
  obtain ⟨⟨l1, l2⟩, ⟨l3, l4⟩, l5, l6, l7⟩ := xl_st
  refine ⟨fun k => if k < 20 then adK k else if k = 200 then tW else if k = 201 then tC else adV (k - 100), ⟨?_, ?_, ?_, ?_, ?_, ?_, ?_, ?_, ?_⟩⟩
  · refine ⟨fun i hi => ?_, fun i j hi hj h => ?_⟩
    · have e1 : (if i < 20 then adK i else if i = 200 then tW else if i = 201 then tC else adV (i - 100)) = adK i := if_pos hi
      have e2 : (if 100 + i < 20 then adK (100 + i) else if 100 + i = 200 then tW else if 100 + i = 201 then tC else adV (100 + i - 100)) = adV i := by
        rw [if_neg (by omega), if_neg (by omega), if_neg (by omega), Nat.add_sub_cancel_left]
      show va_O _ (if i < 20 then adK i else if i = 200 then tW else if i = 201 then tC else adV (i - 100)) _ _ _ ∧ va_OF _ _ _ _ (if i < 20 then adK i else if i = 200 then tW else if i = 201 then tC else adV (i - 100)) _ _ _ ∧ va_OF _ _ _ (.ref (if 100 + i < 20 then adK (100 + i) else if 100 + i = 200 then tW else if 100 + i = 201 then tC else adV (100 + i - 100))) (if i < 20 then adK i else if i = 200 then tW else if i = 201 then tC else adV (i - 100)) _ _ _ ∧ va_T _ (if 100 + i < 20 then adK (100 + i) else if 100 + i = 200 then tW else if 100 + i = 201 then tC else adV (100 + i - 100)) _ _ _ _ _
      rw [e1, e2]
      exact hS.1 i hi
    · have h : (if i < 20 then adK i else if i = 200 then tW else if i = 201 then tC else adV (i - 100)) = (if j < 20 then adK j else if j = 200 then tW else if j = 201 then tC else adV (j - 100)) := h
      rw [if_pos hi, if_pos hj] at h
      exact hS.2 i j hi hj h
  · exact va_Zof (hts _ l3) (hts _ l7) eW hA
  · exact hW
  · exact va_Zof (hts _ l4) (hts _ l7) eC hA
  · exact hC
  · exact va_Zof (hts _ l1) (hts _ l5) (va_eqi (hg _ xo_st.1)) hA
  · exact va_Zqof (hts _ l2) (hts _ l6) (hg _ xo_st.2) hA
  · intro k hk
    show vk_R _ _ _ (if k < 20 then adK k else if k = 200 then tW else if k = 201 then tC else adV (k - 100)) _
    rw [if_pos hk]
    exact vk_R.of (hts _ (xs_sr k hk)) (hR k hk)
  · intro q hq
    exact va_Nw.of rfl (hts _ (xn_st q hq))

set_option maxRecDepth 100000 in
set_option maxHeartbeats 4000000 in
theorem xK_at {s : State} {args : Array Value} (hts : ∀ w ∈ lw_tbl, w.before args s = true) : ∃ (D : va_G) (cy : Nat → ClassId), va_K D vwCl (xtys cy) s ∧ va_AOA .int s := by
  obtain ⟨c0, iS0, hKn0⟩ := u_known (C := RX0) (T := TX0) (N := 6) (n := 6) hts (fun w h => xG_in w (xuX0 w h)) (hts (.instantiable RX0 6) (List.mem_of_getElem? (i := 206) (by decide +kernel)))
  obtain ⟨c1, iS1, hKn1⟩ := u_known (C := RX1) (T := TX1) (N := 5) (n := 5) hts (fun w h => xG_in w (xuX1 w h)) (hts (.instantiable RX1 5) (List.mem_of_getElem? (i := 251) (by decide +kernel)))
  obtain ⟨c2, iS2, hKn2⟩ := u_known (C := RX2) (T := TX2) (N := 7) (n := 7) hts (fun w h => xG_in w (xuX2 w h)) (hts (.instantiable RX2 7) (List.mem_of_getElem? (i := 274) (by decide +kernel)))
  obtain ⟨c3, iS3, hKn3⟩ := u_known (C := RX3) (T := TX3) (N := 2) (n := 2) hts (fun w h => xG_in w (xuX3 w h)) (hts (.instantiable RX3 2) (List.mem_of_getElem? (i := 306) (by decide +kernel)))
  obtain ⟨c4, iS4, hKn4⟩ := u_known (C := RX4) (T := TX4) (N := 2) (n := 2) hts (fun w h => xG_in w (xuX4 w h)) (hts (.instantiable RX4 2) (List.mem_of_getElem? (i := 234) (by decide +kernel)))
  obtain ⟨c5, iS5, hKn5⟩ := u_known (C := RX5) (T := TX5) (N := 10) (n := 10) hts (fun w h => xG_in w (xuX5 w h)) (hts (.instantiable RX5 10) (List.mem_of_getElem? (i := 345) (by decide +kernel)))
  obtain ⟨c6, iS6, hKn6⟩ := u_known (C := RX6) (T := TX6) (N := 5) (n := 5) hts (fun w h => xG_in w (xuX6 w h)) (hts (.instantiable RX6 5) (List.mem_of_getElem? (i := 320) (by decide +kernel)))
  obtain ⟨c7, iS7, hKn7⟩ := u_known (C := RX7) (T := TX7) (N := 10) (n := 10) hts (fun w h => xG_in w (xuX7 w h)) (hts (.instantiable RX7 10) (List.mem_of_getElem? (i := 164) (by decide +kernel)))
  obtain ⟨c8, iS8, hKn8⟩ := u_known (C := RX8) (T := TX8) (N := 13) (n := 13) hts (fun w h => xG_in w (xuX8 w h)) (hts (.instantiable RX8 13) (List.mem_of_getElem? (i := 84) (by decide +kernel)))
  obtain ⟨c9, iS9, hKn9⟩ := u_known (C := RX9) (T := TX9) (N := 10) (n := 10) hts (fun w h => xG_in w (xuX9 w h)) (hts (.instantiable RX9 10) (List.mem_of_getElem? (i := 76) (by decide +kernel)))
  obtain ⟨c10, iS10, hKn10⟩ := u_known (C := RX10) (T := TX10) (N := 27) (n := 27) hts (fun w h => xG_in w (xuX10 w h)) (hts (.instantiable RX10 27) (List.mem_of_getElem? (i := 1068) (by decide +kernel)))
  obtain ⟨k1, k2, k3, k4⟩ := xk_st
  obtain ⟨a1, f1, g1⟩ := xarr (hts _ k1)
  obtain ⟨a2, f2, g2⟩ := xarr (hts _ k2)
  obtain ⟨a3, f3, g3⟩ := xarr (hts _ k3)
  obtain ⟨a4, f4, g4⟩ := xarr2 (hts _ k4)
  refine ⟨(fun k => ([c0, c1, c2, c3, c4, c5, c6, c7, c8, c9, c10] : List ClassId).getD k c0, fun k => ([iS0, iS1, iS2, iS3, iS4, iS5, iS6, iS7, iS8, iS9, iS10] : List (Nat → Nat)).getD k iS0), fun k => ([a1, a1, a2, a3, a4] : List ClassId).getD k a1, ⟨?_, ?_⟩, hts _ k4⟩
  · intro k q hq
    match k, hq with
    | 0, hq => cases hq; exact hKn0
    | 1, hq => cases hq; exact hKn1
    | 2, hq => cases hq; exact hKn2
    | 3, hq => cases hq; exact hKn3
    | 4, hq => cases hq; exact hKn4
    | 5, hq => cases hq; exact hKn5
    | 6, hq => cases hq; exact hKn6
    | 7, hq => cases hq; exact hKn7
    | 8, hq => cases hq; exact hKn8
    | 9, hq => cases hq; exact hKn9
    | 10, hq => cases hq; exact hKn10
    | k + 11, hq => simp [vwCl] at hq
  · intro k q hq
    match k, hq with
    | 0, hq => cases hq; exact ⟨f1, g1⟩
    | 1, hq => cases hq; exact ⟨f2, g2⟩
    | 2, hq => cases hq; exact ⟨f3, g3⟩
    | 3, hq => cases hq; exact ⟨f4, g4⟩
    | k + 4, hq => simp [xtys] at hq
set_option maxRecDepth 100000 in
set_option maxHeartbeats 4000000 in
theorem xpiece9 (h0 : Nat) (cy : Nat → ClassId) (u : Nat → Nat) : pc_X9_init h0 cy u = xw85 (fun i => if i = 0 then h0 else u (i - 1)) cy := by
  have key : ∀ j, j < 85 → (pc_X9_init h0 cy u)[j]? = (xw85 (fun i => if i = 0 then h0 else u (i - 1)) cy)[j]? := by
    intro j hj
    rw [xw85_get hj]
    revert hj
    match j with
    | 0 => intro _; rfl
    | 1 => intro _; rfl
    | 2 => intro _; rfl
    | 3 => intro _; rfl
    | 4 => intro _; rfl
    | 5 => intro _; rfl
    | 6 => intro _; rfl
    | 7 => intro _; rfl
    | 8 => intro _; rfl
    | 9 => intro _; rfl
    | 10 => intro _; rfl
    | 11 => intro _; rfl
    | 12 => intro _; rfl
    | 13 => intro _; rfl
    | 14 => intro _; exact congrArg (fun f => some ((u 13 : Nat), (Sum.inl (cy 4, 14, .inr (.inr (.inr (.inr f)))) : va_E))) (xrows (ids := [15, 16, 17, 18, 19, 20, 21, 22, 23, 24, 25, 26, 27, 28]) rfl rfl)
    | 15 => intro _; rfl
    | 16 => intro _; rfl
    | 17 => intro _; rfl
    | 18 => intro _; rfl
    | 19 => intro _; rfl
    | 20 => intro _; rfl
    | 21 => intro _; rfl
    | 22 => intro _; rfl
    | 23 => intro _; rfl
    | 24 => intro _; rfl
    | 25 => intro _; rfl
    | 26 => intro _; rfl
    | 27 => intro _; rfl
    | 28 => intro _; rfl
    | 29 => intro _; rfl
    | 30 => intro _; rfl
    | 31 => intro _; exact congrArg (fun f => some ((u 30 : Nat), (Sum.inl (cy 4, 8, .inr (.inr (.inr (.inr f)))) : va_E))) (xrows (ids := [32, 33, 34, 35, 36, 37, 38, 39]) rfl rfl)
    | 32 => intro _; rfl
    | 33 => intro _; rfl
    | 34 => intro _; rfl
    | 35 => intro _; rfl
    | 36 => intro _; rfl
    | 37 => intro _; rfl
    | 38 => intro _; rfl
    | 39 => intro _; rfl
    | 40 => intro _; exact congrArg (fun f => some ((u 39 : Nat), (Sum.inl (cy 4, 2, .inr (.inr (.inr (.inr f)))) : va_E))) (xrows (ids := [41, 42]) rfl rfl)
    | 41 => intro _; rfl
    | 42 => intro _; rfl
    | 43 => intro _; rfl
    | 44 => intro _; rfl
    | 45 => intro _; rfl
    | 46 => intro _; rfl
    | 47 => intro _; rfl
    | 48 => intro _; exact congrArg (fun f => some ((u 47 : Nat), (Sum.inl (cy 4, 7, .inr (.inr (.inr (.inr f)))) : va_E))) (xrows (ids := [49, 50, 51, 52, 53, 54, 55]) rfl rfl)
    | 49 => intro _; rfl
    | 50 => intro _; rfl
    | 51 => intro _; rfl
    | 52 => intro _; rfl
    | 53 => intro _; rfl
    | 54 => intro _; rfl
    | 55 => intro _; rfl
    | 56 => intro _; exact congrArg (fun f => some ((u 55 : Nat), (Sum.inl (cy 4, 7, .inr (.inr (.inr (.inr f)))) : va_E))) (xrows (ids := [57, 58, 59, 60, 61, 62, 63]) rfl rfl)
    | 57 => intro _; rfl
    | 58 => intro _; rfl
    | 59 => intro _; rfl
    | 60 => intro _; rfl
    | 61 => intro _; rfl
    | 62 => intro _; rfl
    | 63 => intro _; rfl
    | 64 => intro _; rfl
    | 65 => intro _; rfl
    | 66 => intro _; rfl
    | 67 => intro _; exact congrArg (fun f => some ((u 66 : Nat), (Sum.inl (cy 4, 5, .inr (.inr (.inr (.inr f)))) : va_E))) (xrows (ids := [68, 69, 70, 71, 72]) rfl rfl)
    | 68 => intro _; rfl
    | 69 => intro _; rfl
    | 70 => intro _; rfl
    | 71 => intro _; rfl
    | 72 => intro _; rfl
    | 73 => intro _; rfl
    | 74 => intro _; rfl
    | 75 => intro _; rfl
    | 76 => intro _; rfl
    | 77 => intro _; rfl
    | 78 => intro _; rfl
    | 79 => intro _; rfl
    | 80 => intro _; rfl
    | 81 => intro _; rfl
    | 82 => intro _; rfl
    | 83 => intro _; rfl
    | 84 => intro _; rfl
    | j + 85 => intro h; omega
  refine List.ext_getElem? (fun j => ?_)
  by_cases h : j < 85
  · exact key j h
  · rw [List.getElem?_eq_none (by show 85 ≤ j; omega), List.getElem?_eq_none (by rw [xw85_len]; omega)]
theorem jw_jf {p : Program} {l : Launch} {e : Env} {R : Room} {s : State} {m : MethodId} {args : Array Value} {below : List Frame} {meth : Method} {c : Code} {D : va_G} {Am Am0 : Nat → Nat} {cy : Nat → ClassId} {z : Nat} {ad : Nat → Nat} {A0 : Nat → Prop} {Q : State → Prop} {cells slots c0 s0 nL pc : Nat} {lv : List (Nat × Value)} {st : List Value} {σ : XS} {o : XO} (h : JF (p, l, e, R, s, m, args, below, meth, c, (D, Am, cy, z, ad), A0, Q, cells, slots) o nL pc lv st σ (some o)) : JW (p, l, e, R, s, m, args, below, meth, c, (D, Am0, cy, z, ad), A0, Q, c0, s0) nL pc lv st (xw Am cy σ) cells slots := fun H locs ls hl hP hD hS => h rfl H locs ls hl ⟨hP, hD, hS⟩

set_option maxRecDepth 100000 in
set_option maxHeartbeats 4000000 in
theorem start_of {N : Nat} {R : XS → Prop} {r0 : Int32} {σ1 : XS} (hE : fX10_empties N xs0 = some (r0, σ1)) (hR : R σ1) (S : SimAll N R) {p : Program} {e : Env} {s : State} {m : MethodId} {below : List Frame} {meth : Method} {c : Code} (l : Launch) {b L : Nat} {xs : Nat → Int32} (hL : L ≤ 2560) (C0 : lw_At p s m meth c b L xs) : W p l e room_1 s m #[Value.ref b] below meth c s.heap [] 0 0 (lw_Z below #[Value.ref b] s) (entryFrame m ([Value.ref b] : List Value).toArray 4) := by
  obtain ⟨hx, hb, hr, hml, hown, hts, hX, hbl, hlocks, hgv⟩ := id C0
  obtain ⟨ad, hG⟩ := xG_at hts (flat_of_before _ hgv)
  obtain ⟨D, cy, hK, hO⟩ := xK_at hts
  have hl := lv_entry ([.ref b]) (n := 4) (Nat.le_of_ble_eq_true rfl)
  rw [lg_entry_eq]
  generalize (lg_sl ([.ref b]) ++ List.replicate (4 - (lg_sl ([.ref b])).length) Slot.unset).toArray = ls at hl ⊢
  have hl : lv_has ls 4 [(0, .ref b)] := hl
  have hb : c.code = cL_law := hb
  have hown : s.vm.findClass RL = some m.cls := hown
  have hA : ∀ q : Nat, s.heap.size ≤ q → (fun q : Nat => s.heap.size ≤ q) q := fun _ h => h
  have E0 : ∀ (Am : Nat → Nat) (cells slots : Nat), cells ≤ 600000 → slots ≤ 7302250 → XE (p, l, e, room_1, s, m, #[Value.ref b], below, meth, c, (D, Am, cy, s.heap.size, ad), (fun q : Nat => s.heap.size ≤ q), lw_Z below #[Value.ref b] s, cells, slots) cL_law RL 4 12 436 := fun Am cells slots h1 h2 => ⟨hx, hb, hml, hown, fun w hw => hts w (xG_in w hw), hK, hA, fun q h => h, Nat.le_refl _, hG, rfl, rfl, h1, h2⟩
  have E := E0 (fun _ => 0) 0 0 (Nat.zero_le _) (Nat.zero_le _)
  have G : XN (p, l, e, room_1, s, m, #[Value.ref b], below, meth, c, (D, (fun _ => 0), cy, s.heap.size, ad), (fun q : Nat => s.heap.size ≤ q), lw_Z below #[Value.ref b] s, 0, 0) 600000 7302250 := ⟨rfl, rfl, hO⟩
  refine (?_ : JW (p, l, e, room_1, s, m, #[Value.ref b], below, meth, c, (D, (fun _ => 0), cy, s.heap.size, ad), (fun q : Nat => s.heap.size ≤ q), lw_Z below #[Value.ref b] s, 0, 0) 4 0 [(0, .ref b)] [] [] 0 0) s.heap [] ls hl (fun k q h => by simp at h) ⟨fun i j p q h => by simp at h, fun k q h => by simp at h⟩ va_S.rf
  refine jn_new (pc := 0) (ci := 9) (fs := [.null, .null, .null, .null, .null, .null, .null, .null, .null, .null]) E G xuX9 tyX9 tyX9_ok (xq 75 (by decide +kernel) (by decide +kernel)) (xq 76 (by decide +kernel) (by decide +kernel)) (xq 57 (by decide +kernel) (by decide +kernel)) rfl (fun j hj => by rcases (show j = 0 ∨ j = 1 ∨ j = 2 ∨ j = 3 ∨ j = 4 ∨ j = 5 ∨ j = 6 ∨ j = 7 ∨ j = 8 ∨ j = 9 by omega) with rfl | rfl | rfl | rfl | rfl | rfl | rfl | rfl | rfl | rfl <;> rfl) (Nat.le_of_ble_eq_true rfl) (Nat.le_of_ble_eq_true rfl) dL_law_0 (fun q1 => ?_)
  refine jn_dup (pc := 3) rfl E dL_law_3 ?_
  refine jn_init (pc := 4) (k := 0) (cells := 1) (slots := 10) (st := [.ref q1]) (wr := []) E G (c_X9_init q1) (xq 77 (by decide +kernel) (by decide +kernel)) (xq 78 (by decide +kernel) (by decide +kernel)) (xq 57 (by decide +kernel) (by decide +kernel)) (xq 79 (by decide +kernel) (by decide +kernel)) rfl (by decide +kernel) [] rfl rfl rfl (by decide) ⟨Nat.le_of_ble_eq_true rfl, Nat.le_of_ble_eq_true rfl⟩ (Nat.le_of_ble_eq_true rfl) dL_law_4 (fun u1 => ?_)
  refine jn_eq (ws2 := xw85 (fun i => if i = 0 then q1 else u1 (i - 1)) cy) (xpiece9 q1 cy u1) ?_
  refine jn_astore (pc := 7) (lv1 := [(1, .ref q1), (0, .ref b)]) E dL_law_7 rfl (by decide) rfl ?_
  refine jn_new (pc := 8) (ci := 10) (fs := [.null, .null, .int 0, .null, .null, .null, .int 0, .null, .int 0, .int 0, .null, .int 0, .int 0, .int 0, .int 0, .int 0, .null, .int 0, .int 0, .int 0, .int 0, .null, .null, .int 0, .null, .null, .int 0]) E G xuX10 tyX10 tyX10_ok (xq 1067 (by decide +kernel) (by decide +kernel)) (xq 1068 (by decide +kernel) (by decide +kernel)) (xq 68 (by decide +kernel) (by decide +kernel)) rfl (fun j hj => by rcases (show j = 0 ∨ j = 1 ∨ j = 2 ∨ j = 3 ∨ j = 4 ∨ j = 5 ∨ j = 6 ∨ j = 7 ∨ j = 8 ∨ j = 9 ∨ j = 10 ∨ j = 11 ∨ j = 12 ∨ j = 13 ∨ j = 14 ∨ j = 15 ∨ j = 16 ∨ j = 17 ∨ j = 18 ∨ j = 19 ∨ j = 20 ∨ j = 21 ∨ j = 22 ∨ j = 23 ∨ j = 24 ∨ j = 25 ∨ j = 26 by omega) with rfl | rfl | rfl | rfl | rfl | rfl | rfl | rfl | rfl | rfl | rfl | rfl | rfl | rfl | rfl | rfl | rfl | rfl | rfl | rfl | rfl | rfl | rfl | rfl | rfl | rfl | rfl <;> rfl) (Nat.le_of_ble_eq_true rfl) (Nat.le_of_ble_eq_true rfl) dL_law_8 (fun q2 => ?_)
  refine jn_dup (pc := 11) rfl E dL_law_11 ?_
  refine jn_eq (ws2 := [] ++ (xw85 (fun i => if i = 0 then q1 else u1 (i - 1)) cy ++ [(q2, .inr (10, [.null, .null, .int 0, .null, .null, .null, .int 0, .null, .int 0, .int 0, .null, .int 0, .int 0, .int 0, .int 0, .int 0, .null, .int 0, .int 0, .int 0, .int 0, .null, .null, .int 0, .null, .null, .int 0]))])) rfl ?_
  refine jn_init (pc := 12) (k := 0) (cells := 86) (slots := 1067) (st := [.ref q2]) (wr := []) E G (c_X10_init (fun i => if i = 0 then q1 else u1 (i - 1)) q2 hE) (xq 1069 (by decide +kernel) (by decide +kernel)) (xq 1070 (by decide +kernel) (by decide +kernel)) (xq 68 (by decide +kernel) (by decide +kernel)) (xq 1071 (by decide +kernel) (by decide +kernel)) rfl (by decide +kernel) [] rfl rfl rfl (by decide) ⟨Nat.le_of_ble_eq_true rfl, Nat.le_of_ble_eq_true rfl⟩ (Nat.le_of_ble_eq_true rfl) dL_law_12 (fun u2 => ?_)
  refine jn_astore (pc := 15) (lv1 := [(2, .ref q2), (1, .ref q1), (0, .ref b)]) E dL_law_15 rfl (by decide) rfl ?_
  refine jn_iconst (pc := 16) (v := 0) (by decide) E dL_law_16 ?_
  refine jn_istore (pc := 17) (lv1 := [(3, .int 0), (2, .ref q2), (1, .ref q1), (0, .ref b)]) E dL_law_17 rfl (by decide) rfl ?_
  refine jn_lsub (lv1 := [(0, .ref b), (1, .ref q1), (2, .ref q2), (3, .int 0)]) [3, 2, 1, 0] rfl ?_
  refine (?_ : JW _ 4 18 _ [] (xw (xam (fun i => if i = 0 then q1 else u1 (i - 1)) q2 u2) cy σ1) 98 2402)
  refine jw_jf (o := (0, σ1)) ?_
  exact law_loop (b := b) (L := L) (xs := xs) (E0 _ _ _ (Nat.le_of_ble_eq_true rfl) (Nat.le_of_ble_eq_true rfl)) ⟨hX, hbl, Nat.not_le.mpr hbl⟩ hL (fun H locs ls σ hH => by
    obtain ⟨gP, gD, gS⟩ := hH
    refine va_forget (fun q hq => gS.2.2 q hq) ?_
    refine W.widen (k := 600000) (n := 7302250) (Nat.le_of_ble_eq_true rfl) (Nat.le_of_ble_eq_true rfl) ?_
    exact lw_ret hx hb hr hlocks dL_law_1147) S (L + 1) 0 σ1 (Nat.zero_le L) (by omega) hR
