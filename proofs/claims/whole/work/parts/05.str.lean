/-! TEXTS: String.length and charAt over the constants; place k < 20, its bytes' row at 100 + k -/
def xslen (k : Nat) : Int32 := nI (xlenS.getD k 0) >>> ((0 : Int32) &&& 31)
def xschar (k : Nat) (i : Int32) : Int32 := ((((xbytS.getD k []).getD i.toNatClampNeg 0) &&& 255).toUInt32 % 65536).toInt32
section STR
variable {X : XC} {o : XO} {cc : ByteArray} {own : String} {nL fr lo : Nat} {pc : Nat} {lv : List (Nat × Value)} {st st0 : List Value} {σ σ1 : XS} {T : Option XO}
theorem j_kval {k index : Nat} (E : XE X cc RJ0 nL fr lo) (hk : k < 20) (hl : Cond.fieldLink RJ0 index "java/lang/String" "value" "[B" ∈ xG) (d : decode cc pc = .ok (.getfield index, 3)) (K : JF X o nL (pc + 3) lv (.ref (xk X (100 + k)) :: st) σ T) : JF X o nL pc lv (.ref (xk X k) :: st) σ T := by
  obtain ⟨p, l, e, R, s, m, args, below, meth, c, ⟨D, Am, cy, z, ad⟩, A0, Q, cells, slots⟩ := X
  obtain ⟨hx, hb, hml, hown, hts, hK, hA, hAz, hz, hG, hfr, hlo, hcl, hsl⟩ := E
  intro hT H locs ls hl1 hH
  exact vk_getf hx hb ((hG.1.1 k hk).2.2.1.narrow hAz) hH.2.2 hown (hts _ hl) (fun _ h => h) d (K hT H locs ls hl1 hH)
theorem j_kcod {k index : Nat} (E : XE X cc RJ0 nL fr lo) (hk : k < 20) (hl : Cond.fieldLink RJ0 index "java/lang/String" "coder" "B" ∈ xG) (d : decode cc pc = .ok (.getfield index, 3)) (K : JF X o nL (pc + 3) lv (.int 0 :: st) σ T) : JF X o nL pc lv (.ref (xk X k) :: st) σ T := by
  obtain ⟨p, l, e, R, s, m, args, below, meth, c, ⟨D, Am, cy, z, ad⟩, A0, Q, cells, slots⟩ := X
  obtain ⟨hx, hb, hml, hown, hts, hK, hA, hAz, hz, hG, hfr, hlo, hcl, hsl⟩ := E
  intro hT H locs ls hl1 hH
  exact vk_getf hx hb ((hG.1.1 k hk).2.1.narrow hAz) hH.2.2 hown (hts _ hl) (fun _ h => h) d (K hT H locs ls hl1 hH)
theorem j_kblen {k : Nat} (E : XE X cc own nL fr lo) (hk : k < 20) (d : decode cc pc = .ok (.arraylength, 1)) (K : JF X o nL (pc + 1) lv (.int (nI (xlenS.getD k 0)) :: st) σ T) : JF X o nL pc lv (.ref (xk X (100 + k)) :: st) σ T := by
  obtain ⟨p, l, e, R, s, m, args, below, meth, c, ⟨D, Am, cy, z, ad⟩, A0, Q, cells, slots⟩ := X
  obtain ⟨hx, hb, hml, hown, hts, hK, hA, hAz, hz, hG, hfr, hlo, hcl, hsl⟩ := E
  intro hT H locs ls hl1 hH
  exact va_tlen hx hb ((hG.1.1 k hk).2.2.2.narrow hAz) hH.2.2 rfl d (K hT H locs ls hl1 hH)
theorem j_kbald {k : Nat} {i : Int32} (E : XE X cc own nL fr lo) (hk : k < 20) (d : decode cc pc = .ok (.baload, 1)) (K : JF X o nL (pc + 1) lv (.int ((xbytS.getD k []).getD i.toNatClampNeg 0) :: st) σ T) : JF X o nL pc lv (.int i :: .ref (xk X (100 + k)) :: st) σ (gd (xin i (xlenS.getD k 0)) T) := by
  refine JF.gd (fun hg => ?_)
  obtain ⟨p, l, e, R, s, m, args, below, meth, c, ⟨D, Am, cy, z, ad⟩, A0, Q, cells, slots⟩ := X
  obtain ⟨hx, hb, hml, hown, hts, hK, hA, hAz, hz, hG, hfr, hlo, hcl, hsl⟩ := E
  intro hT H locs ls hl1 hH
  exact va_tb hx hb ((hG.1.1 k hk).2.2.2.narrow hAz) hH.2.2 (xin_ok hg) rfl d (K hT H locs ls hl1 hH)
theorem j_kcomp {index : Nat} (E : XE X cc RJ0 nL fr lo) (hl : Cond.fieldLink RJ0 index "java/lang/String" "COMPACT_STRINGS" "Z" ∈ xG) (d : decode cc pc = .ok (.getstatic index, 3)) (K : JF X o nL (pc + 3) lv (.int 1 :: st) σ T) : JF X o nL pc lv st σ T := by
  obtain ⟨p, l, e, R, s, m, args, below, meth, c, ⟨D, Am, cy, z, ad⟩, A0, Q, cells, slots⟩ := X
  obtain ⟨hx, hb, hml, hown, hts, hK, hA, hAz, hz, hG, hfr, hlo, hcl, hsl⟩ := E
  intro hT H locs ls hl1 hH
  exact va_gets hx hb (hG.2.2.2.2.2.1.narrow hAz) hH.2.2 hown (hts _ hl) (fun _ h => h) d (K hT H locs ls hl1 hH)
theorem j_kform {index : Nat} (E : XE X cc RJ0 nL fr lo) (hl : Cond.fieldLink RJ0 index "jdk/internal/util/Preconditions" "SIOOBE_FORMATTER" "Ljava/util/function/BiFunction;" ∈ xG) (d : decode cc pc = .ok (.getstatic index, 3)) (K : ∀ v : Value, v = .null ∨ (∃ t, v = .ref t) → JF X o nL (pc + 3) lv (v :: st) σ T) : JF X o nL pc lv st σ T := by
  obtain ⟨p, l, e, R, s, m, args, below, meth, c, ⟨D, Am, cy, z, ad⟩, A0, Q, cells, slots⟩ := X
  obtain ⟨hx, hb, hml, hown, hts, hK, hA, hAz, hz, hG, hfr, hlo, hcl, hsl⟩ := E
  intro hT H locs ls hl1 hH
  rcases hG.2.2.2.2.2.2.1 with h | ⟨t, h⟩
  · exact va_gets hx hb (h.narrow hAz) hH.2.2 hown (hts _ hl) (fun _ h => h) d (K _ (Or.inl rfl) hT H locs ls hl1 hH)
  · exact va_gets hx hb (h.narrow hAz) hH.2.2 hown (hts _ hl) (fun _ h => h) d (K _ (Or.inr ⟨t, rfl⟩) hT H locs ls hl1 hH)
/-- a call of a method of a text -/
theorem j_callVk {y : MethodName} {b : ByteArray} {n fr1 lo1 k index k0 : Nat} {ret : Option FieldType} {av : (Nat → Nat) → (Nat → Nat) → List Value} {r : Int32} (E : XE X cc own nL fr lo) (hC : CtI y b n ret fr1 lo1 av σ (r, σ1)) (M : XMV y RJ0 b n ret k) (hk0 : k0 < 20) (hl : Cond.methodLink own index y ∈ xG) (As : List Value) (hav : av (xa X) (xk X) = .ref (xk X k0) :: As) (hk : As.length = k) (hst : st0 = As.reverse ++ .ref (xk X k0) :: st) (hf : fr1 + 1 ≤ fr ∧ 8 + (n + 11) + lo1 ≤ lo) (hW : (st.map fun v => v.category).sum ≤ 8) (d : decode cc pc = .ok (.invokevirtual index, 3)) (K : JF X o nL (pc + 3) lv (.int r :: st) σ1 T) : JF X o nL pc lv st0 σ T := by
  obtain ⟨p, l, e, R, s, m, args, below, meth, c, ⟨D, Am, cy, z, ad⟩, A0, Q, cells, slots⟩ := X
  have E' := E
  obtain ⟨hx, hb, hml, hown, hts, hK, hA, hAz, hz, hG, hfr, hlo, hcl, hsl⟩ := E
  obtain ⟨M1, M2, M3, M4, M5⟩ := M
  intro hT H locs ls hl1 hH
  obtain ⟨hF, hpre⟩ := xsub E' hH
  have hav : av Am ad = .ref (ad k0) :: As := hav
  have hcw : CallW R s args own RJ0 index y b n ret (Cond.code y b n ret :: xG) (xRm fr1 lo1) 0 0 k := ⟨callB_of k hts (xGI M4) rfl rfl rfl (hts _ M3) (hts _ hl) M5 ⟨by rw [hfr]; exact hf.1, by rw [hlo]; exact hf.2⟩, hts _ M1, hts _ M2⟩
  obtain ⟨cellB, g1, g2, g3, g4⟩ := (hG.kept (H1 := H) (fun a h1 h2 => hH.2.2.2.1 a h1 (fun q => h2 (hAz a q)))).1.1 k0 hk0 |>.1
  have hrun := va_runV (As := As) (rest := st) (g := F0 m pc ls st0) (b := ad k0) (H := H) (locs := locs) (cells := cells) (slots := slots) (below := below) (meth := meth) (e := e) ⟨hx, hb, hml, hown, hts⟩ (hC l D Am cy z ad H.size) hcw ⟨xPre.blind, ⟨cellB, g1, g2, g3⟩, fun U hU hW => ⟨by rw [hav], hpre U hU hW⟩⟩ rfl hk hl1.1 hst (lv_room (m := m) (pc := pc) (ls := ls) (rest := st0) hW) d ⟨hcl, hsl⟩
  refine va_calli hrun hH.2.2 (fun q _ h => hF q h) hF (fun r1 u t H1 locs1 ht hvm hw hB hz1 hk1 hS => ?_)
  obtain ⟨e1, e2⟩ := hw
  subst e1 e2
  obtain ⟨gP, gK, gD⟩ := hB
  rw [ht] at gP
  exact K hT H1 locs1 ls hl1 ⟨gP, gD.weaken (fun k q _ h => hF _ h), hS⟩
end STR
theorem xcoder {N : Nat} {σ : XS} {k : Nat} (hk : k < 20) : CtI yJ0_coder_7d493 cJ0_coder_7d493 1 (some .byte) 0 0 (fun Am ad => [.ref (ad k)]) σ (0, σ) := by
  refine ct_z (by decide) (fun _ _ => Nat.le_of_ble_eq_true rfl) (fun X E R => ?_)
  show JF X (0, σ) 1 0 [(0, .ref (xk X k))] [] σ (some (0, σ))
  refine j_kcomp (pc := 0) E q_493 dJ0_coder_7d493_0 ?_
  refine JF.eq (T2 := if (1 : Int32) = 0 then none else some (0, σ)) (by rw [if_neg (by decide)]) ?_
  refine j_if_eq (pc := 3) (tgt := 13) E dJ0_coder_7d493_3 (by decide) JF.none ?_
  refine j_aload_n (pc := 6) rfl 0 rfl E dJ0_coder_7d493_6 ?_
  refine j_kcod (pc := 7) E hk q_1456 dJ0_coder_7d493_7 ?_
  refine j_goto (pc := 10) (tgt := 14) E dJ0_coder_7d493_10 (by decide) ?_
  exact j_zret (pc := 14) E R rfl dJ0_coder_7d493_14
theorem xlatin {N : Nat} {σ : XS} {k : Nat} (hk : k < 20) : CtI yJ0_isLatin1_aae02 cJ0_isLatin1_aae02 1 (some .boolean) 0 0 (fun Am ad => [.ref (ad k)]) σ (1, σ) := by
  refine ct_z (by decide) (fun _ _ => Nat.le_of_ble_eq_true rfl) (fun X E R => ?_)
  show JF X (1, σ) 1 0 [(0, .ref (xk X k))] [] σ (some (1, σ))
  refine j_kcomp (pc := 0) E q_493 dJ0_isLatin1_aae02_0 ?_
  refine JF.eq (T2 := if (1 : Int32) = 0 then none else if (0 : Int32) = 0 then some (1, σ) else none) (by rw [if_neg (by decide), if_pos (by decide)]) ?_
  refine j_if_eq (pc := 3) (tgt := 17) E dJ0_isLatin1_aae02_3 (by decide) JF.none ?_
  refine j_aload_n (pc := 6) rfl 0 rfl E dJ0_isLatin1_aae02_6 ?_
  refine j_kcod (pc := 7) E hk q_1456 dJ0_isLatin1_aae02_7 ?_
  refine j_if_ne (pc := 10) (tgt := 17) E dJ0_isLatin1_aae02_10 (by decide) ?_ JF.none
  refine j_iconst (pc := 13) (v := 1) (by decide) E dJ0_isLatin1_aae02_13 ?_
  refine j_goto (pc := 14) (tgt := 18) E dJ0_isLatin1_aae02_14 (by decide) ?_
  exact j_zret (pc := 18) E R rfl dJ0_isLatin1_aae02_18
theorem xpre {σ : XS} {i n : Int32} (v : Value) (hv : v = .null ∨ ∃ t, v = .ref t) (h0 : ¬ i < 0) (h1 : i < n) : CtI yJ3_checkIndex_8e157 cJ3_checkIndex_8e157 3 (some .int) 0 0 (fun Am ad => [.int i, .int n, v]) σ (i, σ) := by
  have hc : (lg_sl [.int i, .int n, v]).length ≤ 3 := by rcases hv with rfl | ⟨t, rfl⟩ <;> exact Nat.le_of_ble_eq_true rfl
  have hlv : lv_args 0 [.int i, .int n, v] = [(0, .int i), (1, .int n), (2, v)] := by rcases hv with rfl | ⟨t, rfl⟩ <;> rfl
  refine ct_int (by decide) (fun _ _ => hc) (fun X E R => ?_)
  show JF X (i, σ) 3 0 (lv_args 0 [.int i, .int n, v]) [] σ (some (i, σ))
  rw [hlv]
  refine j_iload_n (pc := 0) rfl 0 rfl E dJ3_checkIndex_8e157_0 ?_
  refine JF.eq (T2 := if i < 0 then none else if i < n then some (i, σ) else none) (by rw [if_neg h0, if_pos h1]) ?_
  refine j_if_lt (pc := 1) (tgt := 9) E dJ3_checkIndex_8e157_1 (by decide) JF.none ?_
  refine j_iload_n (pc := 4) rfl 0 rfl E dJ3_checkIndex_8e157_4 ?_
  refine j_iload_n (pc := 5) rfl 1 rfl E dJ3_checkIndex_8e157_5 ?_
  refine j_icmp_lt (pc := 6) (tgt := 16) E dJ3_checkIndex_8e157_6 (by decide) ?_ JF.none
  refine j_iload_n (pc := 16) rfl 0 rfl E dJ3_checkIndex_8e157_16 ?_
  exact j_iret (pc := 17) E R dJ3_checkIndex_8e157_17
theorem xchk {σ : XS} {i n : Int32} (h0 : ¬ i < 0) (h1 : i < n) : CtV yJ0_checkIndex_df160 cJ0_checkIndex_df160 2 none 1 22 (fun Am ad => [.int i, .int n]) σ (0, σ) := by
  refine ct_void (by decide) (fun _ _ => Nat.le_of_ble_eq_true rfl) (fun X E R => ?_)
  show JF X (0, σ) 2 0 [(0, .int i), (1, .int n)] [] σ (some (0, σ))
  refine j_iload_n (pc := 0) rfl 0 rfl E dJ0_checkIndex_df160_0 ?_
  refine j_iload_n (pc := 1) rfl 1 rfl E dJ0_checkIndex_df160_1 ?_
  refine j_kform (pc := 2) E q_509 dJ0_checkIndex_df160_2 (fun v hv => ?_)
  refine j_callSi (pc := 5) (st := []) E (xpre v hv h0 h1) mv_J3_checkIndex_8e157 q_511 [.int i, .int n, v] rfl rfl rfl (by decide) (Nat.le_of_ble_eq_true rfl) dJ0_checkIndex_df160_5 ?_
  refine j_pop (pc := 8) rfl E dJ0_checkIndex_df160_8 ?_
  exact j_vret (pc := 9) E R dJ0_checkIndex_df160_9
theorem xlat {σ : XS} {k : Nat} {i : Int32} (hk : k < 20) (hi : xin i (xlenS.getD k 0) = true) : CtI yJ1_charAt_3b067 cJ1_charAt_3b067 2 (some .char) 2 43 (fun Am ad => [.ref (ad (100 + k)), .int i]) σ (xschar k i, σ) := by
  have h0 : ¬ i < 0 := fun q => xin_ok hi (Or.inl q)
  have hlt := xin_lt hi
  have hN : xlenS.getD k 0 < 2 ^ 31 := by
    have : ∀ k, k < 20 → xlenS.getD k 0 < 100 := by decide +kernel
    have := this k hk
    omega
  have h1 : i < nI (xlenS.getD k 0) := by
    obtain ⟨j, hj, rfl⟩ := nI_of h0
    rw [nI_clamp hj] at hlt
    exact nI_lt hlt hN
  refine ct_z (by decide) (fun _ _ => Nat.le_of_ble_eq_true rfl) (fun X E R => ?_)
  show JF X (xschar k i, σ) 2 0 [(0, .ref (xk X (100 + k))), (1, .int i)] [] σ (some (xschar k i, σ))
  refine j_iload_n (pc := 0) rfl 1 rfl E dJ1_charAt_3b067_0 ?_
  refine j_aload_n (pc := 1) rfl 0 rfl E dJ1_charAt_3b067_1 ?_
  refine j_kblen (pc := 2) E hk dJ1_charAt_3b067_2 ?_
  refine j_callSv (pc := 3) (st := []) E (xchk h0 h1) mv_J0_checkIndex_df160 q_506 [.int i, .int (nI (xlenS.getD k 0))] rfl rfl rfl (by decide) (Nat.le_of_ble_eq_true rfl) dJ1_charAt_3b067_3 ?_
  refine j_aload_n (pc := 6) rfl 0 rfl E dJ1_charAt_3b067_6 ?_
  refine j_iload_n (pc := 7) rfl 1 rfl E dJ1_charAt_3b067_7 ?_
  refine JF.eq (T2 := gd (xin i (xlenS.getD k 0)) (some (xschar k i, σ))) (by rw [hi]; rfl) ?_
  refine j_kbald (pc := 8) E hk dJ1_charAt_3b067_8 ?_
  refine j_sipush (pc := 9) (v := 255) (by decide) E dJ1_charAt_3b067_9 ?_
  refine j_iand (pc := 12) E dJ1_charAt_3b067_12 ?_
  refine j_i2c (pc := 13) E dJ1_charAt_3b067_13 ?_
  exact j_zret (pc := 14) E R (pk_nc _) dJ1_charAt_3b067_14
theorem xstrlen {N : Nat} {σ : XS} {k : Nat} (hk : k < 20) : CtI yJ0_length_8abf5 cJ0_length_8abf5 1 (some .int) 1 20 (fun Am ad => [.ref (ad k)]) σ (xslen k, σ) := by
  refine ct_int (by decide) (fun _ _ => Nat.le_of_ble_eq_true rfl) (fun X E R => ?_)
  show JF X (xslen k, σ) 1 0 [(0, .ref (xk X k))] [] σ (some (xslen k, σ))
  refine j_aload_n (pc := 0) rfl 0 rfl E dJ0_length_8abf5_0 ?_
  refine j_kval (pc := 1) E hk q_1455 dJ0_length_8abf5_1 ?_
  refine j_kblen (pc := 4) E hk dJ0_length_8abf5_4 ?_
  refine j_aload_n (pc := 5) rfl 0 rfl E dJ0_length_8abf5_5 ?_
  refine j_callVk (pc := 6) (st := [.int (nI (xlenS.getD k 0))]) E (xcoder (N := N) hk) mv_J0_coder_7d493 hk q_489 [] rfl rfl rfl (by decide) (Nat.le_of_ble_eq_true rfl) dJ0_length_8abf5_6 ?_
  refine j_ishr (pc := 9) E dJ0_length_8abf5_9 ?_
  exact j_iret (pc := 10) E R dJ0_length_8abf5_10
theorem xstrchar {N : Nat} {σ : XS} {k : Nat} {i : Int32} (hk : k < 20) (hi : xin i (xlenS.getD k 0) = true) : CtI yJ0_charAt_5068e cJ0_charAt_5068e 2 (some .char) 3 64 (fun Am ad => [.ref (ad k), .int i]) σ (xschar k i, σ) := by
  refine ct_z (by decide) (fun _ _ => Nat.le_of_ble_eq_true rfl) (fun X E R => ?_)
  show JF X (xschar k i, σ) 2 0 [(0, .ref (xk X k)), (1, .int i)] [] σ (some (xschar k i, σ))
  refine j_aload_n (pc := 0) rfl 0 rfl E dJ0_charAt_5068e_0 ?_
  refine j_callVk (pc := 1) (st := []) E (xlatin (N := N) hk) mv_J0_isLatin1_aae02 hk q_499 [] rfl rfl rfl (by decide) (Nat.le_of_ble_eq_true rfl) dJ0_charAt_5068e_1 ?_
  refine JF.eq (T2 := if (1 : Int32) = 0 then none else some (xschar k i, σ)) (by rw [if_neg (by decide)]) ?_
  refine j_if_eq (pc := 4) (tgt := 16) E dJ0_charAt_5068e_4 (by decide) JF.none ?_
  refine j_aload_n (pc := 7) rfl 0 rfl E dJ0_charAt_5068e_7 ?_
  refine j_kval (pc := 8) E hk q_1455 dJ0_charAt_5068e_8 ?_
  refine j_iload_n (pc := 11) rfl 1 rfl E dJ0_charAt_5068e_11 ?_
  refine j_callSi (pc := 12) (st := []) E (xlat hk hi) mv_J1_charAt_3b067 q_503 [.ref (xk X (100 + k)), .int i] rfl rfl rfl (by decide) (Nat.le_of_ble_eq_true rfl) dJ0_charAt_5068e_12 ?_
  exact j_zret (pc := 15) E R (pk_nc _) dJ0_charAt_5068e_15
section STR2
variable {X : XC} {o : XO} {cc : ByteArray} {own : String} {nL fr lo : Nat} {pc : Nat} {lv : List (Nat × Value)} {st : List Value} {σ : XS} {T : Option XO}
theorem j_strlen {index k : Nat} (E : XE X cc own nL fr lo) (hl : Cond.methodLink own index yJ0_length_8abf5 ∈ xG) (hf : 1 + 1 ≤ fr ∧ 8 + (1 + 11) + 20 ≤ lo) (hW : (st.map fun v => v.category).sum ≤ 8) (d : decode cc pc = .ok (.invokevirtual index, 3)) (K : JF X o nL (pc + 3) lv (.int (xslen k) :: st) σ T) : JF X o nL pc lv (.ref (xk X k) :: st) σ (gd (decide (k < 20)) T) := by
  refine JF.gd (fun hg => ?_)
  have hk : k < 20 := of_decide_eq_true hg
  exact j_callVk (st := st) E (xstrlen (N := 0) hk) mv_J0_length_8abf5 hk hl [] rfl rfl rfl hf hW d K
theorem j_strchar {index k : Nat} {i : Int32} (E : XE X cc own nL fr lo) (hl : Cond.methodLink own index yJ0_charAt_5068e ∈ xG) (hf : 3 + 1 ≤ fr ∧ 8 + (2 + 11) + 64 ≤ lo) (hW : (st.map fun v => v.category).sum ≤ 8) (d : decode cc pc = .ok (.invokevirtual index, 3)) (K : JF X o nL (pc + 3) lv (.int (xschar k i) :: st) σ T) : JF X o nL pc lv (.int i :: .ref (xk X k) :: st) σ (gd (decide (k < 20) && xin i (xlenS.getD k 0)) T) := by
  refine JF.gd (fun hg => ?_)
  rw [Bool.and_eq_true] at hg
  have hk : k < 20 := of_decide_eq_true hg.1
  exact j_callVk (st := st) E (xstrchar (N := 0) hk hg.2) mv_J0_charAt_5068e hk hl [.int i] rfl rfl rfl hf hW d K
end STR2
