def fX2_leastAt (N : Nat) (σ : XS) (p1 : Int32) (p2 : Int32) (p3 : Int32) : Option XO := xB (fX2_isPlace N σ p1 p3) (fun y1 m2 => if y1 = 0 then some ((-1), m2) else gd (xin p1 7) (gd (xin (((p2 &&& 1) * 13) + p3) 26) (some ((m2 (49 + p1.toNatClampNeg) (((p2 &&& 1) * 13) + p3).toNatClampNeg), m2))))
set_option maxRecDepth 100000 in
set_option maxHeartbeats 4000000 in
theorem kX2_leastAt {N : Nat} {σ : XS} {p1 : Int32} {p2 : Int32} {p3 : Int32} {o : XO} (h : fX2_leastAt N σ p1 p2 p3 = some o) : CtI yX2_leastAt cX2_leastAt 4 (some .int) 1 21 (fun Am ad => [.ref (Am 47), .int p1, .int p2, .int p3]) σ o := by
  refine ct_int (by decide) (fun _ _ => Nat.le_of_ble_eq_true rfl) (fun X E R => ?_)
  rw [← h]
  show JF X o 4 0 [(0, .ref (xa X 47)), (1, .int p1), (2, .int p2), (3, .int p3)] [] σ (xB (fX2_isPlace N σ p1 p3) (fun y1 m2 => if y1 = 0 then some ((-1), m2) else gd (xin p1 7) (gd (xin (((p2 &&& 1) * 13) + p3) 26) (some ((m2 (49 + p1.toNatClampNeg) (((p2 &&& 1) * 13) + p3).toNatClampNeg), m2)))))
  refine j_iload_n (pc := 0) rfl 1 rfl E dX2_leastAt_0 ?_
  refine j_iload_n (pc := 1) rfl 3 rfl E dX2_leastAt_1 ?_
  refine JF.xb (fun y1 m2 h3 => ?_)
  refine j_callSi (pc := 2) (st := []) E (kX2_isPlace h3) mv_X2_isPlace q_884 [.int p1, .int p3] rfl rfl rfl (by decide) (Nat.le_of_ble_eq_true rfl) dX2_leastAt_2 ?_
  refine j_if_eq (pc := 5) (tgt := 26) E dX2_leastAt_5 (by decide) ?_ ?_
  · refine j_iconst (pc := 26) (v := (-1)) (by decide) E dX2_leastAt_26 ?_
    exact j_iret (pc := 27) E R dX2_leastAt_27
  · refine j_aload_n (pc := 8) rfl 0 rfl E dX2_leastAt_8 ?_
    refine j_get (pc := 9) E xuX2 rfl s_47 (k := 3) (by decide) q_285 rfl (xflds_ref rfl) dX2_leastAt_9 ?_
    refine j_iload_n (pc := 12) rfl 1 rfl E dX2_leastAt_12 ?_
    refine j_aald (pc := 13) (b := 49) E s_48 (by decide) dX2_leastAt_13 (fun g4 => ?_)
    refine j_iload_n (pc := 14) rfl 2 rfl E dX2_leastAt_14 ?_
    refine j_iconst (pc := 15) (v := 1) (by decide) E dX2_leastAt_15 ?_
    refine j_iand (pc := 16) E dX2_leastAt_16 ?_
    refine j_bipush (pc := 17) (v := 13) (by decide) E dX2_leastAt_17 ?_
    refine j_imul (pc := 19) E dX2_leastAt_19 ?_
    refine j_iload_n (pc := 20) rfl 3 rfl E dX2_leastAt_20 ?_
    refine j_iadd (pc := 21) E dX2_leastAt_21 ?_
    refine j_iald (pc := 22) E (xg_49 _ (xin_lt g4)) dX2_leastAt_22 ?_
    refine j_goto (pc := 23) (tgt := 27) E dX2_leastAt_23 (by decide) ?_
    exact j_iret (pc := 27) E R dX2_leastAt_27
def fX4_wordAt (N : Nat) (σ : XS) (L : Nat) (p1 : Int32) : Option XO := if p1 < 0 then some ((-1), σ) else if (σ L 1) ≤ p1 then some ((-1), σ) else if 6 ≤ p1 then some ((-1), σ) else gd (xin p1 6) (some ((σ (L + 1) p1.toNatClampNeg), σ))
set_option maxRecDepth 100000 in
set_option maxHeartbeats 4000000 in
theorem kX4_wordAt {N : Nat} {σ : XS} {L : Nat} {p1 : Int32} {o : XO} (hL : xLine L) (h : fX4_wordAt N σ L p1 = some o) : CtI yX4_wordAt cX4_wordAt 2 (some .int) 0 0 (fun Am ad => [.ref (Am L), .int p1]) σ o := by
  refine ct_int (by decide) (fun _ _ => Nat.le_of_ble_eq_true rfl) (fun X E R => ?_)
  rw [← h]
  show JF X o 2 0 [(0, .ref (xa X L)), (1, .int p1)] [] σ (if p1 < 0 then some ((-1), σ) else if (σ L 1) ≤ p1 then some ((-1), σ) else if 6 ≤ p1 then some ((-1), σ) else gd (xin p1 6) (some ((σ (L + 1) p1.toNatClampNeg), σ)))
  refine j_iload_n (pc := 0) rfl 1 rfl E dX4_wordAt_0 ?_
  refine j_if_lt (pc := 1) (tgt := 27) E dX4_wordAt_1 (by decide) ?_ ?_
  · refine j_iconst (pc := 27) (v := (-1)) (by decide) E dX4_wordAt_27 ?_
    exact j_iret (pc := 28) E R dX4_wordAt_28
  · refine j_iload_n (pc := 4) rfl 1 rfl E dX4_wordAt_4 ?_
    refine j_aload_n (pc := 5) rfl 0 rfl E dX4_wordAt_5 ?_
    refine j_get (pc := 6) E xuX4 rfl hL.1 (k := 1) (by decide) q_241 rfl (xflds_int rfl) dX4_wordAt_6 ?_
    refine j_icmp_ge (pc := 9) (tgt := 27) E dX4_wordAt_9 (by decide) ?_ ?_
    · refine j_iconst (pc := 27) (v := (-1)) (by decide) E dX4_wordAt_27 ?_
      exact j_iret (pc := 28) E R dX4_wordAt_28
    · refine j_iload_n (pc := 12) rfl 1 rfl E dX4_wordAt_12 ?_
      refine j_bipush (pc := 13) (v := 6) (by decide) E dX4_wordAt_13 ?_
      refine j_icmp_ge (pc := 15) (tgt := 27) E dX4_wordAt_15 (by decide) ?_ ?_
      · refine j_iconst (pc := 27) (v := (-1)) (by decide) E dX4_wordAt_27 ?_
        exact j_iret (pc := 28) E R dX4_wordAt_28
      · refine j_aload_n (pc := 18) rfl 0 rfl E dX4_wordAt_18 ?_
        refine j_get (pc := 19) E xuX4 rfl hL.1 (k := 0) (by decide) q_239 rfl (xflds_ref rfl) dX4_wordAt_19 ?_
        refine j_iload_n (pc := 22) rfl 1 rfl E dX4_wordAt_22 ?_
        refine j_iald (pc := 23) E hL.2 dX4_wordAt_23 ?_
        refine j_goto (pc := 24) (tgt := 28) E dX4_wordAt_24 (by decide) ?_
        exact j_iret (pc := 28) E R dX4_wordAt_28
def fX2_leastWith_J58 (N : Nat) (v1 : Int32) (v2 : Int32) (t0 : Int32) (t1 : Int32) (t3 : Int32) (t4 : Int32) (t5 : Int32) (σ : XS) : Option XO := xB (fX1_countOf N σ t1 t0) (fun y7 m8 => xB (fX2_leastAt N m8 t5 t4 (t3 - y7)) (fun y10 m11 => if y10 = (-1) then some ((-1), m11) else if (m11 47 5) = 0 then some (y10, m11) else xB (fX4_wordAt N m11 44 ((m11 44 1) - v2)) (fun y13 m14 => if y13 = v1 then some (y10, m14) else some ((y10 + 1), m14))))
set_option maxRecDepth 100000 in
set_option maxHeartbeats 4000000 in
theorem lX2_leastWith_J58 (N : Nat) (v1 : Int32) (v2 : Int32) (t0 : Int32) (t1 : Int32) (t3 : Int32) (t4 : Int32) (t5 : Int32) {X : XC} {o : XO} (E : XE X cX2_leastWith RX2 6 3 66) (R : XI X o cX2_leastWith) (σ : XS) : JF X o 6 58 [(0, .ref (xa X 47)), (1, .int v1), (2, .int v2)] [.int t0, .int t1, .ref (xa X 46), .int t3, .int t4, .int t5, .ref (xa X 47)] σ (fX2_leastWith_J58 N v1 v2 t0 t1 t3 t4 t5 σ) := by
  show JF X o 6 58 [(0, .ref (xa X 47)), (1, .int v1), (2, .int v2)] [.int t0, .int t1, .ref (xa X 46), .int t3, .int t4, .int t5, .ref (xa X 47)] σ (xB (fX1_countOf N σ t1 t0) (fun y7 m8 => xB (fX2_leastAt N m8 t5 t4 (t3 - y7)) (fun y10 m11 => if y10 = (-1) then some ((-1), m11) else if (m11 47 5) = 0 then some (y10, m11) else xB (fX4_wordAt N m11 44 ((m11 44 1) - v2)) (fun y13 m14 => if y13 = v1 then some (y10, m14) else some ((y10 + 1), m14)))))
  refine JF.xb (fun y7 m8 h9 => ?_)
  refine j_callVi (pc := 58) (st := [.int t3, .int t4, .int t5, .ref (xa X 47)]) E (kX1_countOf h9) mv_X1_countOf rfl s_46 q_876 [.int t1, .int t0] rfl rfl rfl (by decide) (Nat.le_of_ble_eq_true rfl) dX2_leastWith_58 ?_
  refine j_isub (pc := 61) E dX2_leastWith_61 ?_
  refine JF.xb (fun y10 m11 h12 => ?_)
  refine j_callVi (pc := 62) (st := []) E (kX2_leastAt h12) mv_X2_leastAt rfl s_47 q_880 [.int t5, .int t4, .int (t3 - y7)] rfl rfl rfl (by decide) (Nat.le_of_ble_eq_true rfl) dX2_leastWith_62 ?_
  refine j_istore (pc := 65) (lv1 := [(5, .int y10), (0, .ref (xa X 47)), (1, .int v1), (2, .int v2)]) E dX2_leastWith_65 (by decide) rfl ?_
  refine j_iload (pc := 67) 0 rfl E dX2_leastWith_67 ?_
  refine j_iconst (pc := 69) (v := (-1)) (by decide) E dX2_leastWith_69 ?_
  refine j_icmp_ne (pc := 70) (tgt := 75) E dX2_leastWith_70 (by decide) ?_ ?_
  · refine j_iconst (pc := 73) (v := (-1)) (by decide) E dX2_leastWith_73 ?_
    exact j_iret (pc := 74) E R dX2_leastWith_74
  · refine j_aload_n (pc := 75) rfl 1 rfl E dX2_leastWith_75 ?_
    refine j_get (pc := 76) E xuX2 rfl s_47 (k := 5) (by decide) q_287 rfl (xflds_int rfl) dX2_leastWith_76 ?_
    refine j_if_eq (pc := 79) (tgt := 109) E dX2_leastWith_79 (by decide) ?_ ?_
    · refine j_iload (pc := 109) 0 rfl E dX2_leastWith_109 ?_
      exact j_iret (pc := 111) E R dX2_leastWith_111
    · refine j_aload_n (pc := 82) rfl 1 rfl E dX2_leastWith_82 ?_
      refine j_get (pc := 83) E xuX2 rfl s_47 (k := 2) (by decide) q_284 rfl (xflds_ref rfl) dX2_leastWith_83 ?_
      refine j_aload_n (pc := 86) rfl 1 rfl E dX2_leastWith_86 ?_
      refine j_get (pc := 87) E xuX2 rfl s_47 (k := 2) (by decide) q_284 rfl (xflds_ref rfl) dX2_leastWith_87 ?_
      refine j_get (pc := 90) E xuX4 rfl s_44 (k := 1) (by decide) q_242 rfl (xflds_int rfl) dX2_leastWith_90 ?_
      refine j_iload_n (pc := 93) rfl 3 rfl E dX2_leastWith_93 ?_
      refine j_isub (pc := 94) E dX2_leastWith_94 ?_
      refine JF.xb (fun y13 m14 h15 => ?_)
      refine j_callVi (pc := 95) (st := []) E (kX4_wordAt xl_44 h15) mv_X4_wordAt rfl s_44 q_887 [.int ((m11 44 1) - v2)] rfl rfl rfl (by decide) (Nat.le_of_ble_eq_true rfl) dX2_leastWith_95 ?_
      refine j_iload_n (pc := 98) rfl 2 rfl E dX2_leastWith_98 ?_
      refine j_icmp_eq (pc := 99) (tgt := 109) E dX2_leastWith_99 (by decide) ?_ ?_
      · refine j_iload (pc := 109) 0 rfl E dX2_leastWith_109 ?_
        exact j_iret (pc := 111) E R dX2_leastWith_111
      · refine j_iload (pc := 102) 0 rfl E dX2_leastWith_102 ?_
        refine j_iconst (pc := 104) (v := 1) (by decide) E dX2_leastWith_104 ?_
        refine j_iadd (pc := 105) E dX2_leastWith_105 ?_
        refine j_goto (pc := 106) (tgt := 111) E dX2_leastWith_106 (by decide) ?_
        exact j_iret (pc := 111) E R dX2_leastWith_111
def fX2_leastWith_J16 (N : Nat) (v1 : Int32) (v2 : Int32) (v3 : Int32) (v4 : Int32) (t0 : Int32) (t1 : Int32) (t2 : Int32) (σ : XS) : Option XO := xB (fX1_allows N σ t2 t1 t0) (fun y1 m2 => if y1 = 0 then some ((-1), m2) else xB (fX9_at N m2 3 v1) (fun y4 m5 => if v2 = 1 then fX2_leastWith_J58 N v1 v2 1 v1 v4 (v3 + y4) (v2 - 1) m5 else fX2_leastWith_J58 N v1 v2 0 v1 v4 (v3 + y4) (v2 - 1) m5))
set_option maxRecDepth 100000 in
set_option maxHeartbeats 4000000 in
theorem lX2_leastWith_J16 (N : Nat) (v1 : Int32) (v2 : Int32) (v3 : Int32) (v4 : Int32) (t0 : Int32) (t1 : Int32) (t2 : Int32) {X : XC} {o : XO} (E : XE X cX2_leastWith RX2 6 3 66) (R : XI X o cX2_leastWith) (σ : XS) : JF X o 6 16 [(0, .ref (xa X 47)), (1, .int v1), (2, .int v2), (3, .int v3), (4, .int v4)] [.int t0, .int t1, .int t2, .ref (xa X 46)] σ (fX2_leastWith_J16 N v1 v2 v3 v4 t0 t1 t2 σ) := by
  show JF X o 6 16 [(0, .ref (xa X 47)), (1, .int v1), (2, .int v2), (3, .int v3), (4, .int v4)] [.int t0, .int t1, .int t2, .ref (xa X 46)] σ (xB (fX1_allows N σ t2 t1 t0) (fun y1 m2 => if y1 = 0 then some ((-1), m2) else xB (fX9_at N m2 3 v1) (fun y4 m5 => if v2 = 1 then fX2_leastWith_J58 N v1 v2 1 v1 v4 (v3 + y4) (v2 - 1) m5 else fX2_leastWith_J58 N v1 v2 0 v1 v4 (v3 + y4) (v2 - 1) m5)))
  refine JF.xb (fun y1 m2 h3 => ?_)
  refine j_callVi (pc := 16) (st := []) E (kX1_allows h3) mv_X1_allows rfl s_46 q_869 [.int t2, .int t1, .int t0] rfl rfl rfl (by decide) (Nat.le_of_ble_eq_true rfl) dX2_leastWith_16 ?_
  refine j_if_ne (pc := 19) (tgt := 24) E dX2_leastWith_19 (by decide) ?_ ?_
  · refine j_iconst (pc := 22) (v := (-1)) (by decide) E dX2_leastWith_22 ?_
    exact j_iret (pc := 23) E R dX2_leastWith_23
  · refine j_aload_n (pc := 24) rfl 0 rfl E dX2_leastWith_24 ?_
    refine j_iload_n (pc := 25) rfl 2 rfl E dX2_leastWith_25 ?_
    refine j_iconst (pc := 26) (v := 1) (by decide) E dX2_leastWith_26 ?_
    refine j_isub (pc := 27) E dX2_leastWith_27 ?_
    refine j_iload_n (pc := 28) rfl 3 rfl E dX2_leastWith_28 ?_
    refine j_aload_n (pc := 29) rfl 0 rfl E dX2_leastWith_29 ?_
    refine j_get (pc := 30) E xuX2 rfl s_47 (k := 0) (by decide) q_282 rfl (xflds_ref rfl) dX2_leastWith_30 ?_
    refine j_get (pc := 33) E xuX8 rfl s_1 (k := 1) (by decide) q_98 rfl (xflds_ref rfl) dX2_leastWith_33 ?_
    refine j_iload_n (pc := 36) rfl 1 rfl E dX2_leastWith_36 ?_
    refine JF.xb (fun y4 m5 h6 => ?_)
    refine j_callSiN (pc := 37) (st := [.int v3, .int (v2 - 1), .ref (xa X 47)]) E (kX9_at xr_3 h6) mv_X9_at (by decide +kernel) [.ref (xa X 3), .int v1] rfl rfl rfl (by decide) (Nat.le_of_ble_eq_true rfl) dX2_leastWith_37 ?_
    refine j_iadd (pc := 40) E dX2_leastWith_40 ?_
    refine j_iload (pc := 41) 4 rfl E dX2_leastWith_41 ?_
    refine j_aload_n (pc := 43) rfl 0 rfl E dX2_leastWith_43 ?_
    refine j_get (pc := 44) E xuX2 rfl s_47 (k := 1) (by decide) q_283 rfl (xflds_ref rfl) dX2_leastWith_44 ?_
    refine j_iload_n (pc := 47) rfl 1 rfl E dX2_leastWith_47 ?_
    refine j_iload_n (pc := 48) rfl 2 rfl E dX2_leastWith_48 ?_
    refine j_iconst (pc := 49) (v := 1) (by decide) E dX2_leastWith_49 ?_
    refine j_icmp_ne (pc := 50) (tgt := 57) E dX2_leastWith_50 (by decide) ?_ ?_
    · refine j_iconst (pc := 53) (v := 1) (by decide) E dX2_leastWith_53 ?_
      refine j_goto (pc := 54) (tgt := 58) E dX2_leastWith_54 (by decide) ?_
      refine JF.sub [0, 1, 2] rfl ?_
      exact lX2_leastWith_J58 N v1 v2 1 v1 v4 (v3 + y4) (v2 - 1) E R m5
    · refine j_iconst (pc := 57) (v := 0) (by decide) E dX2_leastWith_57 ?_
      refine JF.sub [0, 1, 2] rfl ?_
      exact lX2_leastWith_J58 N v1 v2 0 v1 v4 (v3 + y4) (v2 - 1) E R m5
def fX2_leastWith (N : Nat) (σ : XS) (p1 : Int32) (p2 : Int32) (p3 : Int32) (p4 : Int32) : Option XO := if p2 = 1 then fX2_leastWith_J16 N p1 p2 p3 p4 1 p3 p1 σ else fX2_leastWith_J16 N p1 p2 p3 p4 0 p3 p1 σ
set_option maxRecDepth 100000 in
set_option maxHeartbeats 4000000 in
theorem kX2_leastWith {N : Nat} {σ : XS} {p1 : Int32} {p2 : Int32} {p3 : Int32} {p4 : Int32} {o : XO} (h : fX2_leastWith N σ p1 p2 p3 p4 = some o) : CtI yX2_leastWith cX2_leastWith 6 (some .int) 3 66 (fun Am ad => [.ref (Am 47), .int p1, .int p2, .int p3, .int p4]) σ o := by
  refine ct_int (by decide) (fun _ _ => Nat.le_of_ble_eq_true rfl) (fun X E R => ?_)
  rw [← h]
  show JF X o 6 0 [(0, .ref (xa X 47)), (1, .int p1), (2, .int p2), (3, .int p3), (4, .int p4)] [] σ (if p2 = 1 then fX2_leastWith_J16 N p1 p2 p3 p4 1 p3 p1 σ else fX2_leastWith_J16 N p1 p2 p3 p4 0 p3 p1 σ)
  refine j_aload_n (pc := 0) rfl 0 rfl E dX2_leastWith_0 ?_
  refine j_get (pc := 1) E xuX2 rfl s_47 (k := 1) (by decide) q_283 rfl (xflds_ref rfl) dX2_leastWith_1 ?_
  refine j_iload_n (pc := 4) rfl 1 rfl E dX2_leastWith_4 ?_
  refine j_iload_n (pc := 5) rfl 3 rfl E dX2_leastWith_5 ?_
  refine j_iload_n (pc := 6) rfl 2 rfl E dX2_leastWith_6 ?_
  refine j_iconst (pc := 7) (v := 1) (by decide) E dX2_leastWith_7 ?_
  refine j_icmp_ne (pc := 8) (tgt := 15) E dX2_leastWith_8 (by decide) ?_ ?_
  · refine j_iconst (pc := 11) (v := 1) (by decide) E dX2_leastWith_11 ?_
    refine j_goto (pc := 12) (tgt := 16) E dX2_leastWith_12 (by decide) ?_
    refine JF.sub [0, 1, 2, 3, 4] rfl ?_
    exact lX2_leastWith_J16 N p1 p2 p3 p4 1 p3 p1 E R σ
  · refine j_iconst (pc := 15) (v := 0) (by decide) E dX2_leastWith_15 ?_
    refine JF.sub [0, 1, 2, 3, 4] rfl ?_
    exact lX2_leastWith_J16 N p1 p2 p3 p4 0 p3 p1 E R σ
def fX2_manyAt (N : Nat) (σ : XS) (p1 : Int32) (p2 : Int32) (p3 : Int32) : Option XO := xB (fX2_isPlace N σ p1 p3) (fun y1 m2 => if y1 = 0 then some (0, m2) else gd (xin p1 7) (gd (xin (((p2 &&& 1) * 13) + p3) 26) (some ((m2 (57 + p1.toNatClampNeg) (((p2 &&& 1) * 13) + p3).toNatClampNeg), m2))))
set_option maxRecDepth 100000 in
set_option maxHeartbeats 4000000 in
theorem kX2_manyAt {N : Nat} {σ : XS} {p1 : Int32} {p2 : Int32} {p3 : Int32} {o : XO} (h : fX2_manyAt N σ p1 p2 p3 = some o) : CtI yX2_manyAt cX2_manyAt 4 (some .int) 1 21 (fun Am ad => [.ref (Am 47), .int p1, .int p2, .int p3]) σ o := by
  refine ct_int (by decide) (fun _ _ => Nat.le_of_ble_eq_true rfl) (fun X E R => ?_)
  rw [← h]
  show JF X o 4 0 [(0, .ref (xa X 47)), (1, .int p1), (2, .int p2), (3, .int p3)] [] σ (xB (fX2_isPlace N σ p1 p3) (fun y1 m2 => if y1 = 0 then some (0, m2) else gd (xin p1 7) (gd (xin (((p2 &&& 1) * 13) + p3) 26) (some ((m2 (57 + p1.toNatClampNeg) (((p2 &&& 1) * 13) + p3).toNatClampNeg), m2)))))
  refine j_iload_n (pc := 0) rfl 1 rfl E dX2_manyAt_0 ?_
  refine j_iload_n (pc := 1) rfl 3 rfl E dX2_manyAt_1 ?_
  refine JF.xb (fun y1 m2 h3 => ?_)
  refine j_callSi (pc := 2) (st := []) E (kX2_isPlace h3) mv_X2_isPlace q_884 [.int p1, .int p3] rfl rfl rfl (by decide) (Nat.le_of_ble_eq_true rfl) dX2_manyAt_2 ?_
  refine j_if_eq (pc := 5) (tgt := 26) E dX2_manyAt_5 (by decide) ?_ ?_
  · refine j_iconst (pc := 26) (v := 0) (by decide) E dX2_manyAt_26 ?_
    exact j_iret (pc := 27) E R dX2_manyAt_27
  · refine j_aload_n (pc := 8) rfl 0 rfl E dX2_manyAt_8 ?_
    refine j_get (pc := 9) E xuX2 rfl s_47 (k := 4) (by decide) q_286 rfl (xflds_ref rfl) dX2_manyAt_9 ?_
    refine j_iload_n (pc := 12) rfl 1 rfl E dX2_manyAt_12 ?_
    refine j_aald (pc := 13) (b := 57) E s_56 (by decide) dX2_manyAt_13 (fun g4 => ?_)
    refine j_iload_n (pc := 14) rfl 2 rfl E dX2_manyAt_14 ?_
    refine j_iconst (pc := 15) (v := 1) (by decide) E dX2_manyAt_15 ?_
    refine j_iand (pc := 16) E dX2_manyAt_16 ?_
    refine j_bipush (pc := 17) (v := 13) (by decide) E dX2_manyAt_17 ?_
    refine j_imul (pc := 19) E dX2_manyAt_19 ?_
    refine j_iload_n (pc := 20) rfl 3 rfl E dX2_manyAt_20 ?_
    refine j_iadd (pc := 21) E dX2_manyAt_21 ?_
    refine j_iald (pc := 22) E (xg_57 _ (xin_lt g4)) dX2_manyAt_22 ?_
    refine j_goto (pc := 23) (tgt := 27) E dX2_manyAt_23 (by decide) ?_
    exact j_iret (pc := 27) E R dX2_manyAt_27
def fX2_manyWith (N : Nat) (σ : XS) (p1 : Int32) (p2 : Int32) (p3 : Int32) (p4 : Int32) : Option XO := xB (fX9_at N σ 3 p1) (fun y1 m2 => if p2 = 1 then xB (fX1_countOf N m2 p1 1) (fun y10 m11 => xB (fX2_manyAt N m11 (p2 - 1) (p3 + y1) (p4 - y10)) (fun y13 m14 => some (y13, m14))) else xB (fX1_countOf N m2 p1 0) (fun y4 m5 => xB (fX2_manyAt N m5 (p2 - 1) (p3 + y1) (p4 - y4)) (fun y7 m8 => some (y7, m8))))
set_option maxRecDepth 100000 in
set_option maxHeartbeats 4000000 in
theorem kX2_manyWith {N : Nat} {σ : XS} {p1 : Int32} {p2 : Int32} {p3 : Int32} {p4 : Int32} {o : XO} (h : fX2_manyWith N σ p1 p2 p3 p4 = some o) : CtI yX2_manyWith cX2_manyWith 5 (some .int) 2 44 (fun Am ad => [.ref (Am 47), .int p1, .int p2, .int p3, .int p4]) σ o := by
  refine ct_int (by decide) (fun _ _ => Nat.le_of_ble_eq_true rfl) (fun X E R => ?_)
  rw [← h]
  show JF X o 5 0 [(0, .ref (xa X 47)), (1, .int p1), (2, .int p2), (3, .int p3), (4, .int p4)] [] σ (xB (fX9_at N σ 3 p1) (fun y1 m2 => if p2 = 1 then xB (fX1_countOf N m2 p1 1) (fun y10 m11 => xB (fX2_manyAt N m11 (p2 - 1) (p3 + y1) (p4 - y10)) (fun y13 m14 => some (y13, m14))) else xB (fX1_countOf N m2 p1 0) (fun y4 m5 => xB (fX2_manyAt N m5 (p2 - 1) (p3 + y1) (p4 - y4)) (fun y7 m8 => some (y7, m8)))))
  refine j_aload_n (pc := 0) rfl 0 rfl E dX2_manyWith_0 ?_
  refine j_iload_n (pc := 1) rfl 2 rfl E dX2_manyWith_1 ?_
  refine j_iconst (pc := 2) (v := 1) (by decide) E dX2_manyWith_2 ?_
  refine j_isub (pc := 3) E dX2_manyWith_3 ?_
  refine j_iload_n (pc := 4) rfl 3 rfl E dX2_manyWith_4 ?_
  refine j_aload_n (pc := 5) rfl 0 rfl E dX2_manyWith_5 ?_
  refine j_get (pc := 6) E xuX2 rfl s_47 (k := 0) (by decide) q_282 rfl (xflds_ref rfl) dX2_manyWith_6 ?_
  refine j_get (pc := 9) E xuX8 rfl s_1 (k := 1) (by decide) q_98 rfl (xflds_ref rfl) dX2_manyWith_9 ?_
  refine j_iload_n (pc := 12) rfl 1 rfl E dX2_manyWith_12 ?_
  refine JF.xb (fun y1 m2 h3 => ?_)
  refine j_callSiN (pc := 13) (st := [.int p3, .int (p2 - 1), .ref (xa X 47)]) E (kX9_at xr_3 h3) mv_X9_at (by decide +kernel) [.ref (xa X 3), .int p1] rfl rfl rfl (by decide) (Nat.le_of_ble_eq_true rfl) dX2_manyWith_13 ?_
  refine j_iadd (pc := 16) E dX2_manyWith_16 ?_
  refine j_iload (pc := 17) 4 rfl E dX2_manyWith_17 ?_
  refine j_aload_n (pc := 19) rfl 0 rfl E dX2_manyWith_19 ?_
  refine j_get (pc := 20) E xuX2 rfl s_47 (k := 1) (by decide) q_283 rfl (xflds_ref rfl) dX2_manyWith_20 ?_
  refine j_iload_n (pc := 23) rfl 1 rfl E dX2_manyWith_23 ?_
  refine j_iload_n (pc := 24) rfl 2 rfl E dX2_manyWith_24 ?_
  refine j_iconst (pc := 25) (v := 1) (by decide) E dX2_manyWith_25 ?_
  refine j_icmp_ne (pc := 26) (tgt := 33) E dX2_manyWith_26 (by decide) ?_ ?_
  · refine j_iconst (pc := 29) (v := 1) (by decide) E dX2_manyWith_29 ?_
    refine j_goto (pc := 30) (tgt := 34) E dX2_manyWith_30 (by decide) ?_
    refine JF.xb (fun y10 m11 h12 => ?_)
    refine j_callVi (pc := 34) (st := [.int p4, .int (p3 + y1), .int (p2 - 1), .ref (xa X 47)]) E (kX1_countOf h12) mv_X1_countOf rfl s_46 q_876 [.int p1, .int 1] rfl rfl rfl (by decide) (Nat.le_of_ble_eq_true rfl) dX2_manyWith_34 ?_
    refine j_isub (pc := 37) E dX2_manyWith_37 ?_
    refine JF.xb (fun y13 m14 h15 => ?_)
    refine j_callVi (pc := 38) (st := []) E (kX2_manyAt h15) mv_X2_manyAt rfl s_47 q_892 [.int (p2 - 1), .int (p3 + y1), .int (p4 - y10)] rfl rfl rfl (by decide) (Nat.le_of_ble_eq_true rfl) dX2_manyWith_38 ?_
    exact j_iret (pc := 41) E R dX2_manyWith_41
  · refine j_iconst (pc := 33) (v := 0) (by decide) E dX2_manyWith_33 ?_
    refine JF.xb (fun y4 m5 h6 => ?_)
    refine j_callVi (pc := 34) (st := [.int p4, .int (p3 + y1), .int (p2 - 1), .ref (xa X 47)]) E (kX1_countOf h6) mv_X1_countOf rfl s_46 q_876 [.int p1, .int 0] rfl rfl rfl (by decide) (Nat.le_of_ble_eq_true rfl) dX2_manyWith_34 ?_
    refine j_isub (pc := 37) E dX2_manyWith_37 ?_
    refine JF.xb (fun y7 m8 h9 => ?_)
    refine j_callVi (pc := 38) (st := []) E (kX2_manyAt h9) mv_X2_manyAt rfl s_47 q_892 [.int (p2 - 1), .int (p3 + y1), .int (p4 - y4)] rfl rfl rfl (by decide) (Nat.le_of_ble_eq_true rfl) dX2_manyWith_38 ?_
    exact j_iret (pc := 41) E R dX2_manyWith_41
def fX2_fill_J86 (N : Nat) (v1 : Int32) (v2 : Int32) (v4 : Int32) (v5 : Int32) (v6 : Int32) (k28 : Int32 → Int32 → Int32 → XS → Option XO) (σ : XS) : Option XO := gd (!decide (13 = 0)) (gd (!decide (13 = 0)) (xB (fX2_manyWith N σ v5 v1 (v2 / 13) (v2 - v2 / 13 * 13)) (fun y4 m5 => k28 v6 (v4 + y4) (v5 + 1) m5)))
set_option maxRecDepth 100000 in
set_option maxHeartbeats 4000000 in
theorem lX2_fill_J86 (N : Nat) (v1 : Int32) (v2 : Int32) (v4 : Int32) (v5 : Int32) (v6 : Int32) (k28 : Int32 → Int32 → Int32 → XS → Option XO) {X : XC} {o : XO} (E : XE X cX2_fill RX2 7 4 91) (R : XV X o cX2_fill) (K28 : ∀ (v3 : Int32) (v4 : Int32) (v5 : Int32) (σ : XS), JF X o 7 28 [(0, .ref (xa X 47)), (1, .int v1), (2, .int v2), (3, .int v3), (4, .int v4), (5, .int v5)] [] σ (k28 v3 v4 v5 σ)) (σ : XS) : JF X o 7 86 [(0, .ref (xa X 47)), (1, .int v1), (2, .int v2), (4, .int v4), (5, .int v5), (6, .int v6)] [] σ (fX2_fill_J86 N v1 v2 v4 v5 v6 k28 σ) := by
  show JF X o 7 86 [(0, .ref (xa X 47)), (1, .int v1), (2, .int v2), (4, .int v4), (5, .int v5), (6, .int v6)] [] σ (gd (!decide (13 = 0)) (gd (!decide (13 = 0)) (xB (fX2_manyWith N σ v5 v1 (v2 / 13) (v2 - v2 / 13 * 13)) (fun y4 m5 => k28 v6 (v4 + y4) (v5 + 1) m5))))
  refine j_iload (pc := 86) 5 rfl E dX2_fill_86 ?_
  refine j_istore_n (pc := 88) (lv1 := [(3, .int v6), (0, .ref (xa X 47)), (1, .int v1), (2, .int v2), (4, .int v4), (5, .int v5), (6, .int v6)]) E dX2_fill_88 rfl (by decide) rfl ?_
  refine j_iload (pc := 89) 4 rfl E dX2_fill_89 ?_
  refine j_aload_n (pc := 91) rfl 1 rfl E dX2_fill_91 ?_
  refine j_iload (pc := 92) 5 rfl E dX2_fill_92 ?_
  refine j_iload_n (pc := 94) rfl 2 rfl E dX2_fill_94 ?_
  refine j_iload_n (pc := 95) rfl 3 rfl E dX2_fill_95 ?_
  refine j_bipush (pc := 96) (v := 13) (by decide) E dX2_fill_96 ?_
  refine j_idiv (pc := 98) E dX2_fill_98 ?_
  refine j_iload_n (pc := 99) rfl 3 rfl E dX2_fill_99 ?_
  refine j_bipush (pc := 100) (v := 13) (by decide) E dX2_fill_100 ?_
  refine j_irem (pc := 102) E dX2_fill_102 ?_
  refine JF.xb (fun y4 m5 h6 => ?_)
  refine j_callVi (pc := 103) (st := [.int v4]) E (kX2_manyWith h6) mv_X2_manyWith rfl s_47 q_888 [.int v5, .int v1, .int (v2 / 13), .int (v2 - v2 / 13 * 13)] rfl rfl rfl (by decide) (Nat.le_of_ble_eq_true rfl) dX2_fill_103 ?_
  refine j_iadd (pc := 106) E dX2_fill_106 ?_
  refine j_istore (pc := 107) (lv1 := [(4, .int (v4 + y4)), (3, .int v6), (0, .ref (xa X 47)), (1, .int v1), (2, .int v2), (5, .int v5), (6, .int v6)]) E dX2_fill_107 (by decide) rfl ?_
  refine j_iinc (pc := 109) (v := (v5 + 1)) (lv1 := [(5, .int (v5 + 1)), (4, .int (v4 + y4)), (3, .int v6), (0, .ref (xa X 47)), (1, .int v1), (2, .int v2), (6, .int v6)]) E dX2_fill_109 5 rfl rfl (by decide) rfl ?_
  refine j_goto (pc := 112) (tgt := 28) E dX2_fill_112 (by decide) ?_
  refine JF.sub [3, 4, 5, 2, 1, 0] rfl ?_
  exact K28 v6 (v4 + y4) (v5 + 1) m5
def fX2_fill_J77 (N : Nat) (v1 : Int32) (v2 : Int32) (v3 : Int32) (v4 : Int32) (v5 : Int32) (v6 : Int32) (k28 : Int32 → Int32 → Int32 → XS → Option XO) (σ : XS) : Option XO := if v6 = v3 then fX2_fill_J86 N v1 v2 v4 v5 v6 k28 σ else fX2_fill_J86 N v1 v2 0 v5 v6 k28 σ
set_option maxRecDepth 100000 in
set_option maxHeartbeats 4000000 in
theorem lX2_fill_J77 (N : Nat) (v1 : Int32) (v2 : Int32) (v3 : Int32) (v4 : Int32) (v5 : Int32) (v6 : Int32) (k28 : Int32 → Int32 → Int32 → XS → Option XO) {X : XC} {o : XO} (E : XE X cX2_fill RX2 7 4 91) (R : XV X o cX2_fill) (K28 : ∀ (v3 : Int32) (v4 : Int32) (v5 : Int32) (σ : XS), JF X o 7 28 [(0, .ref (xa X 47)), (1, .int v1), (2, .int v2), (3, .int v3), (4, .int v4), (5, .int v5)] [] σ (k28 v3 v4 v5 σ)) (σ : XS) : JF X o 7 77 [(0, .ref (xa X 47)), (1, .int v1), (2, .int v2), (3, .int v3), (4, .int v4), (5, .int v5), (6, .int v6)] [] σ (fX2_fill_J77 N v1 v2 v3 v4 v5 v6 k28 σ) := by
  show JF X o 7 77 [(0, .ref (xa X 47)), (1, .int v1), (2, .int v2), (3, .int v3), (4, .int v4), (5, .int v5), (6, .int v6)] [] σ (if v6 = v3 then fX2_fill_J86 N v1 v2 v4 v5 v6 k28 σ else fX2_fill_J86 N v1 v2 0 v5 v6 k28 σ)
  refine j_iload (pc := 77) 6 rfl E dX2_fill_77 ?_
  refine j_iload_n (pc := 79) rfl 3 rfl E dX2_fill_79 ?_
  refine j_icmp_eq (pc := 80) (tgt := 86) E dX2_fill_80 (by decide) ?_ ?_
  · refine JF.sub [0, 1, 2, 4, 5, 6] rfl ?_
    exact lX2_fill_J86 N v1 v2 v4 v5 v6 k28 E R K28 σ
  · refine j_iconst (pc := 83) (v := 0) (by decide) E dX2_fill_83 ?_
    refine j_istore (pc := 84) (lv1 := [(4, .int 0), (0, .ref (xa X 47)), (1, .int v1), (2, .int v2), (3, .int v3), (5, .int v5), (6, .int v6)]) E dX2_fill_84 (by decide) rfl ?_
    refine JF.sub [1, 2, 3, 0, 5, 6] rfl ?_
    exact lX2_fill_J86 N v1 v2 0 v5 v6 k28 E R K28 σ
def fX2_fill_L28 (N : Nat) (v1 : Int32) (v2 : Int32) (k115 : Int32 → Int32 → XS → Option XO) : Nat → Int32 → Int32 → Int32 → XS → Option XO
  | 0, _, _, _, _ => none
  | n + 1, v3, v4, v5, σ => if (σ 1 9) ≤ v5 then k115 v3 v4 σ else gd (!decide (13 = 0)) (gd (!decide (13 = 0)) (xB (fX2_leastWith N σ v5 v1 (v2 / 13) (v2 - v2 / 13 * 13)) (fun y1 m2 => if y1 = (-1) then fX2_fill_L28 N v1 v2 k115 n v3 v4 (v5 + 1) m2 else if v3 = (-1) then fX2_fill_J77 N v1 v2 v3 v4 v5 y1 (fX2_fill_L28 N v1 v2 k115 n) m2 else if y1 ≤ v3 then fX2_fill_J77 N v1 v2 v3 v4 v5 y1 (fX2_fill_L28 N v1 v2 k115 n) m2 else fX2_fill_L28 N v1 v2 k115 n v3 v4 (v5 + 1) m2)))
set_option maxRecDepth 100000 in
set_option maxHeartbeats 4000000 in
theorem lX2_fill_L28 (N : Nat) (v1 : Int32) (v2 : Int32) (k115 : Int32 → Int32 → XS → Option XO) {X : XC} {o : XO} (E : XE X cX2_fill RX2 7 4 91) (R : XV X o cX2_fill) (K115 : ∀ (v3 : Int32) (v4 : Int32) (σ : XS), JF X o 7 115 [(0, .ref (xa X 47)), (1, .int v1), (2, .int v2), (3, .int v3), (4, .int v4)] [] σ (k115 v3 v4 σ)) : ∀ (n : Nat) (v3 : Int32) (v4 : Int32) (v5 : Int32) (σ : XS), JF X o 7 28 [(0, .ref (xa X 47)), (1, .int v1), (2, .int v2), (3, .int v3), (4, .int v4), (5, .int v5)] [] σ (fX2_fill_L28 N v1 v2 k115 n v3 v4 v5 σ) := by
  intro n
  induction n with
  | zero => intro v3 v4 v5 σ; exact JF.none
  | succ n ih =>
    intro v3 v4 v5 σ
    show JF X o 7 28 [(0, .ref (xa X 47)), (1, .int v1), (2, .int v2), (3, .int v3), (4, .int v4), (5, .int v5)] [] σ (if (σ 1 9) ≤ v5 then k115 v3 v4 σ else gd (!decide (13 = 0)) (gd (!decide (13 = 0)) (xB (fX2_leastWith N σ v5 v1 (v2 / 13) (v2 - v2 / 13 * 13)) (fun y1 m2 => if y1 = (-1) then fX2_fill_L28 N v1 v2 k115 n v3 v4 (v5 + 1) m2 else if v3 = (-1) then fX2_fill_J77 N v1 v2 v3 v4 v5 y1 (fX2_fill_L28 N v1 v2 k115 n) m2 else if y1 ≤ v3 then fX2_fill_J77 N v1 v2 v3 v4 v5 y1 (fX2_fill_L28 N v1 v2 k115 n) m2 else fX2_fill_L28 N v1 v2 k115 n v3 v4 (v5 + 1) m2))))
    refine j_iload (pc := 28) 5 rfl E dX2_fill_28 ?_
    refine j_aload_n (pc := 30) rfl 0 rfl E dX2_fill_30 ?_
    refine j_get (pc := 31) E xuX2 rfl s_47 (k := 0) (by decide) q_282 rfl (xflds_ref rfl) dX2_fill_31 ?_
    refine j_get (pc := 34) E xuX8 rfl s_1 (k := 9) (by decide) q_120 rfl (xflds_int rfl) dX2_fill_34 ?_
    refine j_icmp_ge (pc := 37) (tgt := 115) E dX2_fill_37 (by decide) ?_ ?_
    · refine JF.sub [0, 1, 2, 3, 4] rfl ?_
      exact K115 v3 v4 σ
    · refine j_aload_n (pc := 40) rfl 0 rfl E dX2_fill_40 ?_
      refine j_iload (pc := 41) 5 rfl E dX2_fill_41 ?_
      refine j_iload_n (pc := 43) rfl 1 rfl E dX2_fill_43 ?_
      refine j_iload_n (pc := 44) rfl 2 rfl E dX2_fill_44 ?_
      refine j_bipush (pc := 45) (v := 13) (by decide) E dX2_fill_45 ?_
      refine j_idiv (pc := 47) E dX2_fill_47 ?_
      refine j_iload_n (pc := 48) rfl 2 rfl E dX2_fill_48 ?_
      refine j_bipush (pc := 49) (v := 13) (by decide) E dX2_fill_49 ?_
      refine j_irem (pc := 51) E dX2_fill_51 ?_
      refine JF.xb (fun y1 m2 h3 => ?_)
      refine j_callVi (pc := 52) (st := []) E (kX2_leastWith h3) mv_X2_leastWith rfl s_47 q_865 [.int v5, .int v1, .int (v2 / 13), .int (v2 - v2 / 13 * 13)] rfl rfl rfl (by decide) (Nat.le_of_ble_eq_true rfl) dX2_fill_52 ?_
      refine j_istore (pc := 55) (lv1 := [(6, .int y1), (0, .ref (xa X 47)), (1, .int v1), (2, .int v2), (3, .int v3), (4, .int v4), (5, .int v5)]) E dX2_fill_55 (by decide) rfl ?_
      refine j_iload (pc := 57) 0 rfl E dX2_fill_57 ?_
      refine j_iconst (pc := 59) (v := (-1)) (by decide) E dX2_fill_59 ?_
      refine j_icmp_eq (pc := 60) (tgt := 109) E dX2_fill_60 (by decide) ?_ ?_
      · refine j_iinc (pc := 109) (v := (v5 + 1)) (lv1 := [(5, .int (v5 + 1)), (6, .int y1), (0, .ref (xa X 47)), (1, .int v1), (2, .int v2), (3, .int v3), (4, .int v4)]) E dX2_fill_109 6 rfl rfl (by decide) rfl ?_
        refine j_goto (pc := 112) (tgt := 28) E dX2_fill_112 (by decide) ?_
        refine JF.sub [2, 3, 4, 5, 6, 0] rfl ?_
        exact ih v3 v4 (v5 + 1) m2
      · refine j_iload_n (pc := 63) rfl 4 rfl E dX2_fill_63 ?_
        refine j_iconst (pc := 64) (v := (-1)) (by decide) E dX2_fill_64 ?_
        refine j_icmp_eq (pc := 65) (tgt := 77) E dX2_fill_65 (by decide) ?_ ?_
        · refine JF.sub [1, 2, 3, 4, 5, 6, 0] rfl ?_
          exact lX2_fill_J77 N v1 v2 v3 v4 v5 y1 (fX2_fill_L28 N v1 v2 k115 n) E R ih m2
        · refine j_iload (pc := 68) 0 rfl E dX2_fill_68 ?_
          refine j_iload_n (pc := 70) rfl 4 rfl E dX2_fill_70 ?_
          refine j_icmp_le (pc := 71) (tgt := 77) E dX2_fill_71 (by decide) ?_ ?_
          · refine JF.sub [1, 2, 3, 4, 5, 6, 0] rfl ?_
            exact lX2_fill_J77 N v1 v2 v3 v4 v5 y1 (fX2_fill_L28 N v1 v2 k115 n) E R ih m2
          · refine j_goto (pc := 74) (tgt := 109) E dX2_fill_74 (by decide) ?_
            refine j_iinc (pc := 109) (v := (v5 + 1)) (lv1 := [(5, .int (v5 + 1)), (6, .int y1), (0, .ref (xa X 47)), (1, .int v1), (2, .int v2), (3, .int v3), (4, .int v4)]) E dX2_fill_109 6 rfl rfl (by decide) rfl ?_
            refine j_goto (pc := 112) (tgt := 28) E dX2_fill_112 (by decide) ?_
            refine JF.sub [2, 3, 4, 5, 6, 0] rfl ?_
            exact ih v3 v4 (v5 + 1) m2
def fX2_fill_L14 (N : Nat) (v1 : Int32) (k140 : XS → Option XO) : Nat → Int32 → XS → Option XO
  | 0, _, _ => none
  | n + 1, v2, σ => if 26 ≤ v2 then k140 σ else fX2_fill_L28 N v1 v2 (fun x7 x8 m9 => gd (xin v1 7) (xLet (xUp m9 (49 + v1.toNatClampNeg) v2.toNatClampNeg x7) (fun m11 => gd (xin v2 26) (gd (xin v1 7) (xLet (xUp m11 (57 + v1.toNatClampNeg) v2.toNatClampNeg x8) (fun m15 => gd (xin v2 26) (fX2_fill_L14 N v1 k140 n (v2 + 1) m15))))))) N (-1) 0 0 σ
set_option maxRecDepth 100000 in
set_option maxHeartbeats 4000000 in
theorem lX2_fill_L14 (N : Nat) (v1 : Int32) (k140 : XS → Option XO) {X : XC} {o : XO} (E : XE X cX2_fill RX2 7 4 91) (R : XV X o cX2_fill) (K140 : ∀ (σ : XS), JF X o 7 140 [] [] σ (k140 σ)) : ∀ (n : Nat) (v2 : Int32) (σ : XS), JF X o 7 14 [(0, .ref (xa X 47)), (1, .int v1), (2, .int v2)] [] σ (fX2_fill_L14 N v1 k140 n v2 σ) := by
  intro n
  induction n with
  | zero => intro v2 σ; exact JF.none
  | succ n ih =>
    intro v2 σ
    show JF X o 7 14 [(0, .ref (xa X 47)), (1, .int v1), (2, .int v2)] [] σ (if 26 ≤ v2 then k140 σ else fX2_fill_L28 N v1 v2 (fun x7 x8 m9 => gd (xin v1 7) (xLet (xUp m9 (49 + v1.toNatClampNeg) v2.toNatClampNeg x7) (fun m11 => gd (xin v2 26) (gd (xin v1 7) (xLet (xUp m11 (57 + v1.toNatClampNeg) v2.toNatClampNeg x8) (fun m15 => gd (xin v2 26) (fX2_fill_L14 N v1 k140 n (v2 + 1) m15))))))) N (-1) 0 0 σ)
    refine j_iload_n (pc := 14) rfl 2 rfl E dX2_fill_14 ?_
    refine j_bipush (pc := 15) (v := 26) (by decide) E dX2_fill_15 ?_
    refine j_icmp_ge (pc := 17) (tgt := 140) E dX2_fill_17 (by decide) ?_ ?_
    · refine JF.sub [] rfl ?_
      exact K140  σ
    · refine j_iconst (pc := 20) (v := (-1)) (by decide) E dX2_fill_20 ?_
      refine j_istore_n (pc := 21) (lv1 := [(3, .int (-1)), (0, .ref (xa X 47)), (1, .int v1), (2, .int v2)]) E dX2_fill_21 rfl (by decide) rfl ?_
      refine j_iconst (pc := 22) (v := 0) (by decide) E dX2_fill_22 ?_
      refine j_istore (pc := 23) (lv1 := [(4, .int 0), (3, .int (-1)), (0, .ref (xa X 47)), (1, .int v1), (2, .int v2)]) E dX2_fill_23 (by decide) rfl ?_
      refine j_iconst (pc := 25) (v := 0) (by decide) E dX2_fill_25 ?_
      refine j_istore (pc := 26) (lv1 := [(5, .int 0), (4, .int 0), (3, .int (-1)), (0, .ref (xa X 47)), (1, .int v1), (2, .int v2)]) E dX2_fill_26 (by decide) rfl ?_
      refine JF.sub [3, 4, 5, 2, 1, 0] rfl ?_
      refine lX2_fill_L28 N v1 v2 _ E R (fun x7 x8 m9 => ?_) N (-1) 0 0 σ
      · refine j_aload_n (pc := 115) rfl 0 rfl E dX2_fill_115 ?_
        refine j_get (pc := 116) E xuX2 rfl s_47 (k := 3) (by decide) q_285 rfl (xflds_ref rfl) dX2_fill_116 ?_
        refine j_iload_n (pc := 119) rfl 1 rfl E dX2_fill_119 ?_
        refine j_aald (pc := 120) (b := 49) E s_48 (by decide) dX2_fill_120 (fun g10 => ?_)
        refine j_iload_n (pc := 121) rfl 2 rfl E dX2_fill_121 ?_
        refine j_iload_n (pc := 122) rfl 3 rfl E dX2_fill_122 ?_
        refine JF.xlet (fun m11 e12 => ?_)
        refine j_iast (pc := 123) E (xg_49 _ (xin_lt g10)) dX2_fill_123 e12 ?_
        refine j_aload_n (pc := 124) rfl 0 rfl E dX2_fill_124 ?_
        refine j_get (pc := 125) E xuX2 rfl s_47 (k := 4) (by decide) q_286 rfl (xflds_ref rfl) dX2_fill_125 ?_
        refine j_iload_n (pc := 128) rfl 1 rfl E dX2_fill_128 ?_
        refine j_aald (pc := 129) (b := 57) E s_56 (by decide) dX2_fill_129 (fun g14 => ?_)
        refine j_iload_n (pc := 130) rfl 2 rfl E dX2_fill_130 ?_
        refine j_iload (pc := 131) 4 rfl E dX2_fill_131 ?_
        refine JF.xlet (fun m15 e16 => ?_)
        refine j_iast (pc := 133) E (xg_57 _ (xin_lt g14)) dX2_fill_133 e16 ?_
        refine j_iinc (pc := 134) (v := (v2 + 1)) (lv1 := [(2, .int (v2 + 1)), (0, .ref (xa X 47)), (1, .int v1), (3, .int x7), (4, .int x8)]) E dX2_fill_134 2 rfl rfl (by decide) rfl ?_
        refine j_goto (pc := 137) (tgt := 14) E dX2_fill_137 (by decide) ?_
        refine JF.sub [1, 2, 0] rfl ?_
        exact ih (v2 + 1) m15
def fX2_fill (N : Nat) (σ : XS) (p1 : Int32) : Option XO := if p1 < 1 then some (0, σ) else if p1 ≤ 6 then fX2_fill_L14 N p1 (fun m18 => some (0, m18)) N 0 σ else some (0, σ)
set_option maxRecDepth 100000 in
set_option maxHeartbeats 4000000 in
theorem kX2_fill {N : Nat} {σ : XS} {p1 : Int32} {o : XO} (h : fX2_fill N σ p1 = some o) : CtV yX2_fill cX2_fill 7 none 4 91 (fun Am ad => [.ref (Am 47), .int p1]) σ o := by
  refine ct_void (by decide) (fun _ _ => Nat.le_of_ble_eq_true rfl) (fun X E R => ?_)
  rw [← h]
  show JF X o 7 0 [(0, .ref (xa X 47)), (1, .int p1)] [] σ (if p1 < 1 then some (0, σ) else if p1 ≤ 6 then fX2_fill_L14 N p1 (fun m18 => some (0, m18)) N 0 σ else some (0, σ))
  refine j_iload_n (pc := 0) rfl 1 rfl E dX2_fill_0 ?_
  refine j_iconst (pc := 1) (v := 1) (by decide) E dX2_fill_1 ?_
  refine j_icmp_lt (pc := 2) (tgt := 11) E dX2_fill_2 (by decide) ?_ ?_
  · exact j_vret (pc := 11) E R dX2_fill_11
  · refine j_iload_n (pc := 5) rfl 1 rfl E dX2_fill_5 ?_
    refine j_bipush (pc := 6) (v := 6) (by decide) E dX2_fill_6 ?_
    refine j_icmp_le (pc := 8) (tgt := 12) E dX2_fill_8 (by decide) ?_ ?_
    · refine j_iconst (pc := 12) (v := 0) (by decide) E dX2_fill_12 ?_
      refine j_istore_n (pc := 13) (lv1 := [(2, .int 0), (0, .ref (xa X 47)), (1, .int p1)]) E dX2_fill_13 rfl (by decide) rfl ?_
      refine JF.sub [1, 2, 0] rfl ?_
      refine lX2_fill_L14 N p1 _ E R (fun m18 => ?_) N 0 σ
      · exact j_vret (pc := 140) E R dX2_fill_140
    · exact j_vret (pc := 11) E R dX2_fill_11
def fX2_fewestWords_L7 (N : Nat) (k34 : Int32 → XS → Option XO) (k42 : XS → Option XO) : Nat → Int32 → XS → Option XO
  | 0, _, _ => none
  | n + 1, v1, σ => if 4 < v1 then k42 σ else xB (fX2_fill N σ v1) (fun _ m5 => xB (fX2_leastAt N m5 v1 0 (m5 46 1)) (fun y7 m8 => if y7 = (-1) then fX2_fewestWords_L7 N k34 k42 n (v1 + 1) m8 else k34 v1 m8))
set_option maxRecDepth 100000 in
set_option maxHeartbeats 4000000 in
theorem lX2_fewestWords_L7 (N : Nat) (k34 : Int32 → XS → Option XO) (k42 : XS → Option XO) {X : XC} {o : XO} (E : XE X cX2_fewestWords RX2 2 5 117) (R : XI X o cX2_fewestWords) (K34 : ∀ (v1 : Int32) (σ : XS), JF X o 2 34 [(1, .int v1)] [] σ (k34 v1 σ)) (K42 : ∀ (σ : XS), JF X o 2 42 [] [] σ (k42 σ)) : ∀ (n : Nat) (v1 : Int32) (σ : XS), JF X o 2 7 [(0, .ref (xa X 47)), (1, .int v1)] [] σ (fX2_fewestWords_L7 N k34 k42 n v1 σ) := by
  intro n
  induction n with
  | zero => intro v1 σ; exact JF.none
  | succ n ih =>
    intro v1 σ
    show JF X o 2 7 [(0, .ref (xa X 47)), (1, .int v1)] [] σ (if 4 < v1 then k42 σ else xB (fX2_fill N σ v1) (fun _ m5 => xB (fX2_leastAt N m5 v1 0 (m5 46 1)) (fun y7 m8 => if y7 = (-1) then fX2_fewestWords_L7 N k34 k42 n (v1 + 1) m8 else k34 v1 m8)))
    refine j_iload_n (pc := 7) rfl 1 rfl E dX2_fewestWords_7 ?_
    refine j_iconst (pc := 8) (v := 4) (by decide) E dX2_fewestWords_8 ?_
    refine j_icmp_gt (pc := 9) (tgt := 42) E dX2_fewestWords_9 (by decide) ?_ ?_
    · refine JF.sub [] rfl ?_
      exact K42  σ
    · refine j_aload_n (pc := 12) rfl 0 rfl E dX2_fewestWords_12 ?_
      refine j_iload_n (pc := 13) rfl 1 rfl E dX2_fewestWords_13 ?_
      refine JF.xb (fun y4 m5 h6 => ?_)
      refine j_callVv (pc := 14) (st := []) E (kX2_fill h6) mv_X2_fill rfl s_47 q_861 [.int v1] rfl rfl rfl (by decide) (Nat.le_of_ble_eq_true rfl) dX2_fewestWords_14 ?_
      refine j_aload_n (pc := 17) rfl 0 rfl E dX2_fewestWords_17 ?_
      refine j_iload_n (pc := 18) rfl 1 rfl E dX2_fewestWords_18 ?_
      refine j_iconst (pc := 19) (v := 0) (by decide) E dX2_fewestWords_19 ?_
      refine j_aload_n (pc := 20) rfl 0 rfl E dX2_fewestWords_20 ?_
      refine j_get (pc := 21) E xuX2 rfl s_47 (k := 1) (by decide) q_283 rfl (xflds_ref rfl) dX2_fewestWords_21 ?_
      refine j_get (pc := 24) E xuX1 rfl s_46 (k := 1) (by decide) q_257 rfl (xflds_int rfl) dX2_fewestWords_24 ?_
      refine JF.xb (fun y7 m8 h9 => ?_)
      refine j_callVi (pc := 27) (st := []) E (kX2_leastAt h9) mv_X2_leastAt rfl s_47 q_880 [.int v1, .int 0, .int (m5 46 1)] rfl rfl rfl (by decide) (Nat.le_of_ble_eq_true rfl) dX2_fewestWords_27 ?_
      refine j_iconst (pc := 30) (v := (-1)) (by decide) E dX2_fewestWords_30 ?_
      refine j_icmp_eq (pc := 31) (tgt := 36) E dX2_fewestWords_31 (by decide) ?_ ?_
      · refine j_iinc (pc := 36) (v := (v1 + 1)) (lv1 := [(1, .int (v1 + 1)), (0, .ref (xa X 47))]) E dX2_fewestWords_36 1 rfl rfl (by decide) rfl ?_
        refine j_goto (pc := 39) (tgt := 7) E dX2_fewestWords_39 (by decide) ?_
        refine JF.sub [1, 0] rfl ?_
        exact ih (v1 + 1) m8
      · refine JF.sub [1] rfl ?_
        exact K34 v1 m8
def fX2_fewestWords (N : Nat) (σ : XS) : Option XO := xB (fX2_begin N σ 0) (fun _ m2 => fX2_fewestWords_L7 N (fun x10 m11 => some (x10, m11)) (fun m12 => some ((-1), m12)) N 1 m2)
set_option maxRecDepth 100000 in
set_option maxHeartbeats 4000000 in
theorem kX2_fewestWords {N : Nat} {σ : XS} {o : XO} (h : fX2_fewestWords N σ = some o) : CtI yX2_fewestWords cX2_fewestWords 2 (some .int) 5 117 (fun Am ad => [.ref (Am 47)]) σ o := by
  refine ct_int (by decide) (fun _ _ => Nat.le_of_ble_eq_true rfl) (fun X E R => ?_)
  rw [← h]
  show JF X o 2 0 [(0, .ref (xa X 47))] [] σ (xB (fX2_begin N σ 0) (fun _ m2 => fX2_fewestWords_L7 N (fun x10 m11 => some (x10, m11)) (fun m12 => some ((-1), m12)) N 1 m2))
  refine j_aload_n (pc := 0) rfl 0 rfl E dX2_fewestWords_0 ?_
  refine j_iconst (pc := 1) (v := 0) (by decide) E dX2_fewestWords_1 ?_
  refine JF.xb (fun y1 m2 h3 => ?_)
  refine j_callVv (pc := 2) (st := []) E (kX2_begin h3) mv_X2_begin rfl s_47 q_856 [.int 0] rfl rfl rfl (by decide) (Nat.le_of_ble_eq_true rfl) dX2_fewestWords_2 ?_
  refine j_iconst (pc := 5) (v := 1) (by decide) E dX2_fewestWords_5 ?_
  refine j_istore_n (pc := 6) (lv1 := [(1, .int 1), (0, .ref (xa X 47))]) E dX2_fewestWords_6 rfl (by decide) rfl ?_
  refine JF.sub [1, 0] rfl ?_
  refine lX2_fewestWords_L7 N _ _ E R (fun x10 m11 => ?_) (fun m12 => ?_) N 1 m2
  · refine j_iload_n (pc := 34) rfl 0 rfl E dX2_fewestWords_34 ?_
    exact j_iret (pc := 35) E R dX2_fewestWords_35
  · refine j_iconst (pc := 42) (v := (-1)) (by decide) E dX2_fewestWords_42 ?_
    exact j_iret (pc := 43) E R dX2_fewestWords_43
def fX2_linesOf_L7 (N : Nat) (v1 : Int32) (k23 : XS → Option XO) : Nat → Int32 → XS → Option XO
  | 0, _, _ => none
  | n + 1, v2, σ => if v1 < v2 then k23 σ else xB (fX2_fill N σ v2) (fun _ m5 => fX2_linesOf_L7 N v1 k23 n (v2 + 1) m5)
set_option maxRecDepth 100000 in
set_option maxHeartbeats 4000000 in
theorem lX2_linesOf_L7 (N : Nat) (v1 : Int32) (k23 : XS → Option XO) {X : XC} {o : XO} (E : XE X cX2_linesOf RX2 3 5 117) (R : XI X o cX2_linesOf) (K23 : ∀ (σ : XS), JF X o 3 23 [(0, .ref (xa X 47)), (1, .int v1)] [] σ (k23 σ)) : ∀ (n : Nat) (v2 : Int32) (σ : XS), JF X o 3 7 [(0, .ref (xa X 47)), (1, .int v1), (2, .int v2)] [] σ (fX2_linesOf_L7 N v1 k23 n v2 σ) := by
  intro n
  induction n with
  | zero => intro v2 σ; exact JF.none
  | succ n ih =>
    intro v2 σ
    show JF X o 3 7 [(0, .ref (xa X 47)), (1, .int v1), (2, .int v2)] [] σ (if v1 < v2 then k23 σ else xB (fX2_fill N σ v2) (fun _ m5 => fX2_linesOf_L7 N v1 k23 n (v2 + 1) m5))
    refine j_iload_n (pc := 7) rfl 2 rfl E dX2_linesOf_7 ?_
    refine j_iload_n (pc := 8) rfl 1 rfl E dX2_linesOf_8 ?_
    refine j_icmp_gt (pc := 9) (tgt := 23) E dX2_linesOf_9 (by decide) ?_ ?_
    · refine JF.sub [0, 1] rfl ?_
      exact K23  σ
    · refine j_aload_n (pc := 12) rfl 0 rfl E dX2_linesOf_12 ?_
      refine j_iload_n (pc := 13) rfl 2 rfl E dX2_linesOf_13 ?_
      refine JF.xb (fun y4 m5 h6 => ?_)
      refine j_callVv (pc := 14) (st := []) E (kX2_fill h6) mv_X2_fill rfl s_47 q_861 [.int v2] rfl rfl rfl (by decide) (Nat.le_of_ble_eq_true rfl) dX2_linesOf_14 ?_
      refine j_iinc (pc := 17) (v := (v2 + 1)) (lv1 := [(2, .int (v2 + 1)), (0, .ref (xa X 47)), (1, .int v1)]) E dX2_linesOf_17 2 rfl rfl (by decide) rfl ?_
      refine j_goto (pc := 20) (tgt := 7) E dX2_linesOf_20 (by decide) ?_
      refine JF.sub [1, 2, 0] rfl ?_
      exact ih (v2 + 1) m5
def fX2_linesOf (N : Nat) (σ : XS) (p1 : Int32) : Option XO := xB (fX2_begin N σ 0) (fun _ m2 => fX2_linesOf_L7 N p1 (fun m7 => xB (fX2_manyAt N m7 p1 0 (m7 46 1)) (fun y8 m9 => some (y8, m9))) N 1 m2)
set_option maxRecDepth 100000 in
set_option maxHeartbeats 4000000 in
theorem kX2_linesOf {N : Nat} {σ : XS} {p1 : Int32} {o : XO} (h : fX2_linesOf N σ p1 = some o) : CtI yX2_linesOf cX2_linesOf 3 (some .int) 5 117 (fun Am ad => [.ref (Am 47), .int p1]) σ o := by
  refine ct_int (by decide) (fun _ _ => Nat.le_of_ble_eq_true rfl) (fun X E R => ?_)
  rw [← h]
  show JF X o 3 0 [(0, .ref (xa X 47)), (1, .int p1)] [] σ (xB (fX2_begin N σ 0) (fun _ m2 => fX2_linesOf_L7 N p1 (fun m7 => xB (fX2_manyAt N m7 p1 0 (m7 46 1)) (fun y8 m9 => some (y8, m9))) N 1 m2))
  refine j_aload_n (pc := 0) rfl 0 rfl E dX2_linesOf_0 ?_
  refine j_iconst (pc := 1) (v := 0) (by decide) E dX2_linesOf_1 ?_
  refine JF.xb (fun y1 m2 h3 => ?_)
  refine j_callVv (pc := 2) (st := []) E (kX2_begin h3) mv_X2_begin rfl s_47 q_856 [.int 0] rfl rfl rfl (by decide) (Nat.le_of_ble_eq_true rfl) dX2_linesOf_2 ?_
  refine j_iconst (pc := 5) (v := 1) (by decide) E dX2_linesOf_5 ?_
  refine j_istore_n (pc := 6) (lv1 := [(2, .int 1), (0, .ref (xa X 47)), (1, .int p1)]) E dX2_linesOf_6 rfl (by decide) rfl ?_
  refine JF.sub [1, 2, 0] rfl ?_
  refine lX2_linesOf_L7 N p1 _ E R (fun m7 => ?_) N 1 m2
  · refine j_aload_n (pc := 23) rfl 0 rfl E dX2_linesOf_23 ?_
    refine j_iload_n (pc := 24) rfl 1 rfl E dX2_linesOf_24 ?_
    refine j_iconst (pc := 25) (v := 0) (by decide) E dX2_linesOf_25 ?_
    refine j_aload_n (pc := 26) rfl 0 rfl E dX2_linesOf_26 ?_
    refine j_get (pc := 27) E xuX2 rfl s_47 (k := 1) (by decide) q_283 rfl (xflds_ref rfl) dX2_linesOf_27 ?_
    refine j_get (pc := 30) E xuX1 rfl s_46 (k := 1) (by decide) q_257 rfl (xflds_int rfl) dX2_linesOf_30 ?_
    refine JF.xb (fun y8 m9 h10 => ?_)
    refine j_callVi (pc := 33) (st := []) E (kX2_manyAt h10) mv_X2_manyAt rfl s_47 q_892 [.int p1, .int 0, .int (m7 46 1)] rfl rfl rfl (by decide) (Nat.le_of_ble_eq_true rfl) dX2_linesOf_33 ?_
    exact j_iret (pc := 36) E R dX2_linesOf_36
def fX2_fewestChanges_L19 (N : Nat) (k41 : XS → Option XO) : Nat → Int32 → XS → Option XO
  | 0, _, _ => none
  | n + 1, v1, σ => if (σ 44 1) < v1 then k41 σ else xB (fX2_fill N σ v1) (fun _ m5 => fX2_fewestChanges_L19 N k41 n (v1 + 1) m5)
set_option maxRecDepth 100000 in
set_option maxHeartbeats 4000000 in
theorem lX2_fewestChanges_L19 (N : Nat) (k41 : XS → Option XO) {X : XC} {o : XO} (E : XE X cX2_fewestChanges RX2 2 5 117) (R : XI X o cX2_fewestChanges) (K41 : ∀ (σ : XS), JF X o 2 41 [(0, .ref (xa X 47))] [] σ (k41 σ)) : ∀ (n : Nat) (v1 : Int32) (σ : XS), JF X o 2 19 [(0, .ref (xa X 47)), (1, .int v1)] [] σ (fX2_fewestChanges_L19 N k41 n v1 σ) := by
  intro n
  induction n with
  | zero => intro v1 σ; exact JF.none
  | succ n ih =>
    intro v1 σ
    show JF X o 2 19 [(0, .ref (xa X 47)), (1, .int v1)] [] σ (if (σ 44 1) < v1 then k41 σ else xB (fX2_fill N σ v1) (fun _ m5 => fX2_fewestChanges_L19 N k41 n (v1 + 1) m5))
    refine j_iload_n (pc := 19) rfl 1 rfl E dX2_fewestChanges_19 ?_
    refine j_aload_n (pc := 20) rfl 0 rfl E dX2_fewestChanges_20 ?_
    refine j_get (pc := 21) E xuX2 rfl s_47 (k := 2) (by decide) q_284 rfl (xflds_ref rfl) dX2_fewestChanges_21 ?_
    refine j_get (pc := 24) E xuX4 rfl s_44 (k := 1) (by decide) q_242 rfl (xflds_int rfl) dX2_fewestChanges_24 ?_
    refine j_icmp_gt (pc := 27) (tgt := 41) E dX2_fewestChanges_27 (by decide) ?_ ?_
    · refine JF.sub [0] rfl ?_
      exact K41  σ
    · refine j_aload_n (pc := 30) rfl 0 rfl E dX2_fewestChanges_30 ?_
      refine j_iload_n (pc := 31) rfl 1 rfl E dX2_fewestChanges_31 ?_
      refine JF.xb (fun y4 m5 h6 => ?_)
      refine j_callVv (pc := 32) (st := []) E (kX2_fill h6) mv_X2_fill rfl s_47 q_861 [.int v1] rfl rfl rfl (by decide) (Nat.le_of_ble_eq_true rfl) dX2_fewestChanges_32 ?_
      refine j_iinc (pc := 35) (v := (v1 + 1)) (lv1 := [(1, .int (v1 + 1)), (0, .ref (xa X 47))]) E dX2_fewestChanges_35 1 rfl rfl (by decide) rfl ?_
      refine j_goto (pc := 38) (tgt := 19) E dX2_fewestChanges_38 (by decide) ?_
      refine JF.sub [1, 0] rfl ?_
      exact ih (v1 + 1) m5
def fX2_fewestChanges (N : Nat) (σ : XS) : Option XO := if (σ 44 1) = 0 then some ((-1), σ) else xB (fX2_begin N σ 1) (fun _ m2 => fX2_fewestChanges_L19 N (fun m7 => xB (fX2_leastAt N m7 (m7 44 1) 0 (m7 46 1)) (fun y8 m9 => some (y8, m9))) N 1 m2)
set_option maxRecDepth 100000 in
set_option maxHeartbeats 4000000 in
theorem kX2_fewestChanges {N : Nat} {σ : XS} {o : XO} (h : fX2_fewestChanges N σ = some o) : CtI yX2_fewestChanges cX2_fewestChanges 2 (some .int) 5 117 (fun Am ad => [.ref (Am 47)]) σ o := by
  refine ct_int (by decide) (fun _ _ => Nat.le_of_ble_eq_true rfl) (fun X E R => ?_)
  rw [← h]
  show JF X o 2 0 [(0, .ref (xa X 47))] [] σ (if (σ 44 1) = 0 then some ((-1), σ) else xB (fX2_begin N σ 1) (fun _ m2 => fX2_fewestChanges_L19 N (fun m7 => xB (fX2_leastAt N m7 (m7 44 1) 0 (m7 46 1)) (fun y8 m9 => some (y8, m9))) N 1 m2))
  refine j_aload_n (pc := 0) rfl 0 rfl E dX2_fewestChanges_0 ?_
  refine j_get (pc := 1) E xuX2 rfl s_47 (k := 2) (by decide) q_284 rfl (xflds_ref rfl) dX2_fewestChanges_1 ?_
  refine j_get (pc := 4) E xuX4 rfl s_44 (k := 1) (by decide) q_242 rfl (xflds_int rfl) dX2_fewestChanges_4 ?_
  refine j_if_ne (pc := 7) (tgt := 12) E dX2_fewestChanges_7 (by decide) ?_ ?_
  · refine j_iconst (pc := 10) (v := (-1)) (by decide) E dX2_fewestChanges_10 ?_
    exact j_iret (pc := 11) E R dX2_fewestChanges_11
  · refine j_aload_n (pc := 12) rfl 0 rfl E dX2_fewestChanges_12 ?_
    refine j_iconst (pc := 13) (v := 1) (by decide) E dX2_fewestChanges_13 ?_
    refine JF.xb (fun y1 m2 h3 => ?_)
    refine j_callVv (pc := 14) (st := []) E (kX2_begin h3) mv_X2_begin rfl s_47 q_856 [.int 1] rfl rfl rfl (by decide) (Nat.le_of_ble_eq_true rfl) dX2_fewestChanges_14 ?_
    refine j_iconst (pc := 17) (v := 1) (by decide) E dX2_fewestChanges_17 ?_
    refine j_istore_n (pc := 18) (lv1 := [(1, .int 1), (0, .ref (xa X 47))]) E dX2_fewestChanges_18 rfl (by decide) rfl ?_
    refine JF.sub [1, 0] rfl ?_
    refine lX2_fewestChanges_L19 N _ E R (fun m7 => ?_) N 1 m2
    · refine j_aload_n (pc := 41) rfl 0 rfl E dX2_fewestChanges_41 ?_
      refine j_aload_n (pc := 42) rfl 0 rfl E dX2_fewestChanges_42 ?_
      refine j_get (pc := 43) E xuX2 rfl s_47 (k := 2) (by decide) q_284 rfl (xflds_ref rfl) dX2_fewestChanges_43 ?_
      refine j_get (pc := 46) E xuX4 rfl s_44 (k := 1) (by decide) q_242 rfl (xflds_int rfl) dX2_fewestChanges_46 ?_
      refine j_iconst (pc := 49) (v := 0) (by decide) E dX2_fewestChanges_49 ?_
      refine j_aload_n (pc := 50) rfl 0 rfl E dX2_fewestChanges_50 ?_
      refine j_get (pc := 51) E xuX2 rfl s_47 (k := 1) (by decide) q_283 rfl (xflds_ref rfl) dX2_fewestChanges_51 ?_
      refine j_get (pc := 54) E xuX1 rfl s_46 (k := 1) (by decide) q_257 rfl (xflds_int rfl) dX2_fewestChanges_54 ?_
      refine JF.xb (fun y8 m9 h10 => ?_)
      refine j_callVi (pc := 57) (st := []) E (kX2_leastAt h10) mv_X2_leastAt rfl s_47 q_880 [.int (m7 44 1), .int 0, .int (m7 46 1)] rfl rfl rfl (by decide) (Nat.le_of_ble_eq_true rfl) dX2_fewestChanges_57 ?_
      exact j_iret (pc := 60) E R dX2_fewestChanges_60
def fX2_firstWord_L20 (N : Nat) (v1 : Int32) (v2 : Int32) (v3 : Int32) (v4 : Int32) (k46 : Int32 → XS → Option XO) (k55 : XS → Option XO) : Nat → Int32 → XS → Option XO
  | 0, _, _ => none
  | n + 1, v5, σ => if (σ 1 9) ≤ v5 then k55 σ else xB (fX2_leastWith N σ v5 v1 v2 v3) (fun y4 m5 => if y4 = v4 then k46 v5 m5 else fX2_firstWord_L20 N v1 v2 v3 v4 k46 k55 n (v5 + 1) m5)
set_option maxRecDepth 100000 in
set_option maxHeartbeats 4000000 in
theorem lX2_firstWord_L20 (N : Nat) (v1 : Int32) (v2 : Int32) (v3 : Int32) (v4 : Int32) (k46 : Int32 → XS → Option XO) (k55 : XS → Option XO) {X : XC} {o : XO} (E : XE X cX2_firstWord RX2 6 4 91) (R : XI X o cX2_firstWord) (K46 : ∀ (v5 : Int32) (σ : XS), JF X o 6 46 [(5, .int v5)] [] σ (k46 v5 σ)) (K55 : ∀ (σ : XS), JF X o 6 55 [] [] σ (k55 σ)) : ∀ (n : Nat) (v5 : Int32) (σ : XS), JF X o 6 20 [(0, .ref (xa X 47)), (1, .int v1), (2, .int v2), (3, .int v3), (4, .int v4), (5, .int v5)] [] σ (fX2_firstWord_L20 N v1 v2 v3 v4 k46 k55 n v5 σ) := by
  intro n
  induction n with
  | zero => intro v5 σ; exact JF.none
  | succ n ih =>
    intro v5 σ
    show JF X o 6 20 [(0, .ref (xa X 47)), (1, .int v1), (2, .int v2), (3, .int v3), (4, .int v4), (5, .int v5)] [] σ (if (σ 1 9) ≤ v5 then k55 σ else xB (fX2_leastWith N σ v5 v1 v2 v3) (fun y4 m5 => if y4 = v4 then k46 v5 m5 else fX2_firstWord_L20 N v1 v2 v3 v4 k46 k55 n (v5 + 1) m5))
    refine j_iload (pc := 20) 5 rfl E dX2_firstWord_20 ?_
    refine j_aload_n (pc := 22) rfl 0 rfl E dX2_firstWord_22 ?_
    refine j_get (pc := 23) E xuX2 rfl s_47 (k := 0) (by decide) q_282 rfl (xflds_ref rfl) dX2_firstWord_23 ?_
    refine j_get (pc := 26) E xuX8 rfl s_1 (k := 9) (by decide) q_120 rfl (xflds_int rfl) dX2_firstWord_26 ?_
    refine j_icmp_ge (pc := 29) (tgt := 55) E dX2_firstWord_29 (by decide) ?_ ?_
    · refine JF.sub [] rfl ?_
      exact K55  σ
    · refine j_aload_n (pc := 32) rfl 0 rfl E dX2_firstWord_32 ?_
      refine j_iload (pc := 33) 5 rfl E dX2_firstWord_33 ?_
      refine j_iload_n (pc := 35) rfl 1 rfl E dX2_firstWord_35 ?_
      refine j_iload_n (pc := 36) rfl 2 rfl E dX2_firstWord_36 ?_
      refine j_iload_n (pc := 37) rfl 3 rfl E dX2_firstWord_37 ?_
      refine JF.xb (fun y4 m5 h6 => ?_)
      refine j_callVi (pc := 38) (st := []) E (kX2_leastWith h6) mv_X2_leastWith rfl s_47 q_865 [.int v5, .int v1, .int v2, .int v3] rfl rfl rfl (by decide) (Nat.le_of_ble_eq_true rfl) dX2_firstWord_38 ?_
      refine j_iload (pc := 41) 4 rfl E dX2_firstWord_41 ?_
      refine j_icmp_ne (pc := 43) (tgt := 49) E dX2_firstWord_43 (by decide) ?_ ?_
      · refine JF.sub [5] rfl ?_
        exact K46 v5 m5
      · refine j_iinc (pc := 49) (v := (v5 + 1)) (lv1 := [(5, .int (v5 + 1)), (0, .ref (xa X 47)), (1, .int v1), (2, .int v2), (3, .int v3), (4, .int v4)]) E dX2_firstWord_49 5 rfl rfl (by decide) rfl ?_
        refine j_goto (pc := 52) (tgt := 20) E dX2_firstWord_52 (by decide) ?_
        refine JF.sub [1, 2, 3, 4, 5, 0] rfl ?_
        exact ih (v5 + 1) m5
def fX2_firstWord (N : Nat) (σ : XS) (p1 : Int32) (p2 : Int32) (p3 : Int32) : Option XO := xB (fX2_leastAt N σ p1 p2 p3) (fun y1 m2 => if y1 = (-1) then some ((-1), m2) else fX2_firstWord_L20 N p1 p2 p3 y1 (fun x7 m8 => some (x7, m8)) (fun m9 => some ((-1), m9)) N 0 m2)
set_option maxRecDepth 100000 in
set_option maxHeartbeats 4000000 in
theorem kX2_firstWord {N : Nat} {σ : XS} {p1 : Int32} {p2 : Int32} {p3 : Int32} {o : XO} (h : fX2_firstWord N σ p1 p2 p3 = some o) : CtI yX2_firstWord cX2_firstWord 6 (some .int) 4 91 (fun Am ad => [.ref (Am 47), .int p1, .int p2, .int p3]) σ o := by
  refine ct_int (by decide) (fun _ _ => Nat.le_of_ble_eq_true rfl) (fun X E R => ?_)
  rw [← h]
  show JF X o 6 0 [(0, .ref (xa X 47)), (1, .int p1), (2, .int p2), (3, .int p3)] [] σ (xB (fX2_leastAt N σ p1 p2 p3) (fun y1 m2 => if y1 = (-1) then some ((-1), m2) else fX2_firstWord_L20 N p1 p2 p3 y1 (fun x7 m8 => some (x7, m8)) (fun m9 => some ((-1), m9)) N 0 m2))
  refine j_aload_n (pc := 0) rfl 0 rfl E dX2_firstWord_0 ?_
  refine j_iload_n (pc := 1) rfl 1 rfl E dX2_firstWord_1 ?_
  refine j_iload_n (pc := 2) rfl 2 rfl E dX2_firstWord_2 ?_
  refine j_iload_n (pc := 3) rfl 3 rfl E dX2_firstWord_3 ?_
  refine JF.xb (fun y1 m2 h3 => ?_)
  refine j_callVi (pc := 4) (st := []) E (kX2_leastAt h3) mv_X2_leastAt rfl s_47 q_880 [.int p1, .int p2, .int p3] rfl rfl rfl (by decide) (Nat.le_of_ble_eq_true rfl) dX2_firstWord_4 ?_
  refine j_istore (pc := 7) (lv1 := [(4, .int y1), (0, .ref (xa X 47)), (1, .int p1), (2, .int p2), (3, .int p3)]) E dX2_firstWord_7 (by decide) rfl ?_
  refine j_iload (pc := 9) 0 rfl E dX2_firstWord_9 ?_
  refine j_iconst (pc := 11) (v := (-1)) (by decide) E dX2_firstWord_11 ?_
  refine j_icmp_ne (pc := 12) (tgt := 17) E dX2_firstWord_12 (by decide) ?_ ?_
  · refine j_iconst (pc := 15) (v := (-1)) (by decide) E dX2_firstWord_15 ?_
    exact j_iret (pc := 16) E R dX2_firstWord_16
  · refine j_iconst (pc := 17) (v := 0) (by decide) E dX2_firstWord_17 ?_
    refine j_istore (pc := 18) (lv1 := [(5, .int 0), (4, .int y1), (0, .ref (xa X 47)), (1, .int p1), (2, .int p2), (3, .int p3)]) E dX2_firstWord_18 (by decide) rfl ?_
    refine JF.sub [2, 3, 4, 5, 1, 0] rfl ?_
    refine lX2_firstWord_L20 N p1 p2 p3 y1 _ _ E R (fun x7 m8 => ?_) (fun m9 => ?_) N 0 m2
    · refine j_iload (pc := 46) 0 rfl E dX2_firstWord_46 ?_
      exact j_iret (pc := 48) E R dX2_firstWord_48
    · refine j_iconst (pc := 55) (v := (-1)) (by decide) E dX2_firstWord_55 ?_
      exact j_iret (pc := 56) E R dX2_firstWord_56
def fX4_add (N : Nat) (σ : XS) (L : Nat) (p1 : Int32) : Option XO := if 6 ≤ (σ L 1) then some ((σ L 1), σ) else xLet (xUp σ (L + 1) (σ L 1).toNatClampNeg p1) (fun m1 => gd (xin (σ L 1) 6) (xLet (xUp m1 L 1 ((m1 L 1) + 1)) (fun m4 => some ((m4 L 1), m4))))
set_option maxRecDepth 100000 in
set_option maxHeartbeats 4000000 in
theorem kX4_add {N : Nat} {σ : XS} {L : Nat} {p1 : Int32} {o : XO} (hL : xLine L) (h : fX4_add N σ L p1 = some o) : CtI yX4_add cX4_add 2 (some .int) 0 0 (fun Am ad => [.ref (Am L), .int p1]) σ o := by
  refine ct_int (by decide) (fun _ _ => Nat.le_of_ble_eq_true rfl) (fun X E R => ?_)
  rw [← h]
  show JF X o 2 0 [(0, .ref (xa X L)), (1, .int p1)] [] σ (if 6 ≤ (σ L 1) then some ((σ L 1), σ) else xLet (xUp σ (L + 1) (σ L 1).toNatClampNeg p1) (fun m1 => gd (xin (σ L 1) 6) (xLet (xUp m1 L 1 ((m1 L 1) + 1)) (fun m4 => some ((m4 L 1), m4)))))
  refine j_aload_n (pc := 0) rfl 0 rfl E dX4_add_0 ?_
  refine j_get (pc := 1) E xuX4 rfl hL.1 (k := 1) (by decide) q_241 rfl (xflds_int rfl) dX4_add_1 ?_
  refine j_bipush (pc := 4) (v := 6) (by decide) E dX4_add_4 ?_
  refine j_icmp_ge (pc := 6) (tgt := 29) E dX4_add_6 (by decide) ?_ ?_
  · refine j_aload_n (pc := 29) rfl 0 rfl E dX4_add_29 ?_
    refine j_get (pc := 30) E xuX4 rfl hL.1 (k := 1) (by decide) q_241 rfl (xflds_int rfl) dX4_add_30 ?_
    exact j_iret (pc := 33) E R dX4_add_33
  · refine j_aload_n (pc := 9) rfl 0 rfl E dX4_add_9 ?_
    refine j_get (pc := 10) E xuX4 rfl hL.1 (k := 0) (by decide) q_239 rfl (xflds_ref rfl) dX4_add_10 ?_
    refine j_aload_n (pc := 13) rfl 0 rfl E dX4_add_13 ?_
    refine j_get (pc := 14) E xuX4 rfl hL.1 (k := 1) (by decide) q_241 rfl (xflds_int rfl) dX4_add_14 ?_
    refine j_iload_n (pc := 17) rfl 1 rfl E dX4_add_17 ?_
    refine JF.xlet (fun m1 e2 => ?_)
    refine j_iast (pc := 18) E hL.2 dX4_add_18 e2 ?_
    refine j_aload_n (pc := 19) rfl 0 rfl E dX4_add_19 ?_
    refine j_dup (pc := 20) rfl E dX4_add_20 ?_
    refine j_get (pc := 21) E xuX4 rfl hL.1 (k := 1) (by decide) q_241 rfl (xflds_int rfl) dX4_add_21 ?_
    refine j_iconst (pc := 24) (v := 1) (by decide) E dX4_add_24 ?_
    refine j_iadd (pc := 25) E dX4_add_25 ?_
    refine JF.xlet (fun m4 e5 => ?_)
    refine j_put (pc := 26) E xuX4 tyX4 tyX4_ok nmX4 rfl hL.1 rfl (k := 1) (by decide) q_241 rfl rfl (ty := .int) (by decide +kernel) rfl rfl dX4_add_26 e5 ?_
    refine j_aload_n (pc := 29) rfl 0 rfl E dX4_add_29 ?_
    refine j_get (pc := 30) E xuX4 rfl hL.1 (k := 1) (by decide) q_241 rfl (xflds_int rfl) dX4_add_30 ?_
    exact j_iret (pc := 33) E R dX4_add_33
def fX4_clear (N : Nat) (σ : XS) (L : Nat) : Option XO := xLet (xUp σ L 1 0) (fun m1 => some ((σ L 1), m1))
set_option maxRecDepth 100000 in
set_option maxHeartbeats 4000000 in
theorem kX4_clear {N : Nat} {σ : XS} {L : Nat} {o : XO} (hL : xLine L) (h : fX4_clear N σ L = some o) : CtI yX4_clear cX4_clear 2 (some .int) 0 0 (fun Am ad => [.ref (Am L)]) σ o := by
  refine ct_int (by decide) (fun _ _ => Nat.le_of_ble_eq_true rfl) (fun X E R => ?_)
  rw [← h]
  show JF X o 2 0 [(0, .ref (xa X L))] [] σ (xLet (xUp σ L 1 0) (fun m1 => some ((σ L 1), m1)))
  refine j_aload_n (pc := 0) rfl 0 rfl E dX4_clear_0 ?_
  refine j_get (pc := 1) E xuX4 rfl hL.1 (k := 1) (by decide) q_241 rfl (xflds_int rfl) dX4_clear_1 ?_
  refine j_istore_n (pc := 4) (lv1 := [(1, .int (σ L 1)), (0, .ref (xa X L))]) E dX4_clear_4 rfl (by decide) rfl ?_
  refine j_aload_n (pc := 5) rfl 1 rfl E dX4_clear_5 ?_
  refine j_iconst (pc := 6) (v := 0) (by decide) E dX4_clear_6 ?_
  refine JF.xlet (fun m1 e2 => ?_)
  refine j_put (pc := 7) E xuX4 tyX4 tyX4_ok nmX4 rfl hL.1 rfl (k := 1) (by decide) q_241 rfl rfl (ty := .int) (by decide +kernel) rfl rfl dX4_clear_7 e2 ?_
  refine j_iload_n (pc := 10) rfl 0 rfl E dX4_clear_10 ?_
  exact j_iret (pc := 11) E R dX4_clear_11
def fX2_findFirst_J72 (N : Nat) (v2 : Int32) (v4 : Int32) (v5 : Int32) (t0 : Int32) (t1 : Int32) (t3 : Int32) (k21 : Int32 → Int32 → Int32 → XS → Option XO) (σ : XS) : Option XO := xB (fX1_countOf N σ t1 t0) (fun y10 m11 => xB (fX9_at N m11 3 v5) (fun y13 m14 => k21 (v2 + y13) (t3 - y10) (v4 + (-1)) m14))
set_option maxRecDepth 100000 in
set_option maxHeartbeats 4000000 in
theorem lX2_findFirst_J72 (N : Nat) (v2 : Int32) (v4 : Int32) (v5 : Int32) (t0 : Int32) (t1 : Int32) (t3 : Int32) (k21 : Int32 → Int32 → Int32 → XS → Option XO) {X : XC} {o : XO} (E : XE X cX2_findFirst RX2 6 5 116) (R : XV X o cX2_findFirst) (K21 : ∀ (v2 : Int32) (v3 : Int32) (v4 : Int32) (σ : XS), JF X o 6 21 [(0, .ref (xa X 47)), (2, .int v2), (3, .int v3), (4, .int v4)] [] σ (k21 v2 v3 v4 σ)) (σ : XS) : JF X o 6 72 [(0, .ref (xa X 47)), (2, .int v2), (4, .int v4), (5, .int v5)] [.int t0, .int t1, .ref (xa X 46), .int t3] σ (fX2_findFirst_J72 N v2 v4 v5 t0 t1 t3 k21 σ) := by
  show JF X o 6 72 [(0, .ref (xa X 47)), (2, .int v2), (4, .int v4), (5, .int v5)] [.int t0, .int t1, .ref (xa X 46), .int t3] σ (xB (fX1_countOf N σ t1 t0) (fun y10 m11 => xB (fX9_at N m11 3 v5) (fun y13 m14 => k21 (v2 + y13) (t3 - y10) (v4 + (-1)) m14)))
  refine JF.xb (fun y10 m11 h12 => ?_)
  refine j_callVi (pc := 72) (st := [.int t3]) E (kX1_countOf h12) mv_X1_countOf rfl s_46 q_876 [.int t1, .int t0] rfl rfl rfl (by decide) (Nat.le_of_ble_eq_true rfl) dX2_findFirst_72 ?_
  refine j_isub (pc := 75) E dX2_findFirst_75 ?_
  refine j_istore_n (pc := 76) (lv1 := [(3, .int (t3 - y10)), (0, .ref (xa X 47)), (2, .int v2), (4, .int v4), (5, .int v5)]) E dX2_findFirst_76 rfl (by decide) rfl ?_
  refine j_iload_n (pc := 77) rfl 2 rfl E dX2_findFirst_77 ?_
  refine j_aload_n (pc := 78) rfl 1 rfl E dX2_findFirst_78 ?_
  refine j_get (pc := 79) E xuX2 rfl s_47 (k := 0) (by decide) q_282 rfl (xflds_ref rfl) dX2_findFirst_79 ?_
  refine j_get (pc := 82) E xuX8 rfl s_1 (k := 1) (by decide) q_98 rfl (xflds_ref rfl) dX2_findFirst_82 ?_
  refine j_iload (pc := 85) 4 rfl E dX2_findFirst_85 ?_
  refine JF.xb (fun y13 m14 h15 => ?_)
  refine j_callSiN (pc := 87) (st := [.int v2]) E (kX9_at xr_3 h15) mv_X9_at (by decide +kernel) [.ref (xa X 3), .int v5] rfl rfl rfl (by decide) (Nat.le_of_ble_eq_true rfl) dX2_findFirst_87 ?_
  refine j_iadd (pc := 90) E dX2_findFirst_90 ?_
  refine j_istore_n (pc := 91) (lv1 := [(2, .int (v2 + y13)), (3, .int (t3 - y10)), (0, .ref (xa X 47)), (4, .int v4), (5, .int v5)]) E dX2_findFirst_91 rfl (by decide) rfl ?_
  refine j_iinc (pc := 92) (v := (v4 + (-1))) (lv1 := [(4, .int (v4 + (-1))), (2, .int (v2 + y13)), (3, .int (t3 - y10)), (0, .ref (xa X 47)), (5, .int v5)]) E dX2_findFirst_92 3 rfl rfl (by decide) rfl ?_
  refine j_goto (pc := 95) (tgt := 21) E dX2_findFirst_95 (by decide) ?_
  refine JF.sub [3, 1, 2, 0] rfl ?_
  exact K21 (v2 + y13) (t3 - y10) (v4 + (-1)) m14
def fX2_findFirst_L21 (N : Nat) (k43 : XS → Option XO) (k98 : XS → Option XO) : Nat → Int32 → Int32 → Int32 → XS → Option XO
  | 0, _, _, _, _ => none
  | n + 1, v2, v3, v4, σ => if v4 < 1 then k98 σ else xB (fX2_firstWord N σ v4 v2 v3) (fun y4 m5 => if y4 = (-1) then k43 m5 else xB (fX4_add N m5 64 y4) (fun y7 m8 => if v4 = 1 then fX2_findFirst_J72 N v2 v4 y4 1 y4 v3 (fX2_findFirst_L21 N k43 k98 n) m8 else fX2_findFirst_J72 N v2 v4 y4 0 y4 v3 (fX2_findFirst_L21 N k43 k98 n) m8))
set_option maxRecDepth 100000 in
set_option maxHeartbeats 4000000 in
theorem lX2_findFirst_L21 (N : Nat) (k43 : XS → Option XO) (k98 : XS → Option XO) {X : XC} {o : XO} (E : XE X cX2_findFirst RX2 6 5 116) (R : XV X o cX2_findFirst) (K43 : ∀ (σ : XS), JF X o 6 43 [] [] σ (k43 σ)) (K98 : ∀ (σ : XS), JF X o 6 98 [] [] σ (k98 σ)) : ∀ (n : Nat) (v2 : Int32) (v3 : Int32) (v4 : Int32) (σ : XS), JF X o 6 21 [(0, .ref (xa X 47)), (2, .int v2), (3, .int v3), (4, .int v4)] [] σ (fX2_findFirst_L21 N k43 k98 n v2 v3 v4 σ) := by
  intro n
  induction n with
  | zero => intro v2 v3 v4 σ; exact JF.none
  | succ n ih =>
    intro v2 v3 v4 σ
    show JF X o 6 21 [(0, .ref (xa X 47)), (2, .int v2), (3, .int v3), (4, .int v4)] [] σ (if v4 < 1 then k98 σ else xB (fX2_firstWord N σ v4 v2 v3) (fun y4 m5 => if y4 = (-1) then k43 m5 else xB (fX4_add N m5 64 y4) (fun y7 m8 => if v4 = 1 then fX2_findFirst_J72 N v2 v4 y4 1 y4 v3 (fX2_findFirst_L21 N k43 k98 n) m8 else fX2_findFirst_J72 N v2 v4 y4 0 y4 v3 (fX2_findFirst_L21 N k43 k98 n) m8)))
    refine j_iload (pc := 21) 3 rfl E dX2_findFirst_21 ?_
    refine j_iconst (pc := 23) (v := 1) (by decide) E dX2_findFirst_23 ?_
    refine j_icmp_lt (pc := 24) (tgt := 98) E dX2_findFirst_24 (by decide) ?_ ?_
    · refine JF.sub [] rfl ?_
      exact K98  σ
    · refine j_aload_n (pc := 27) rfl 0 rfl E dX2_findFirst_27 ?_
      refine j_iload (pc := 28) 3 rfl E dX2_findFirst_28 ?_
      refine j_iload_n (pc := 30) rfl 1 rfl E dX2_findFirst_30 ?_
      refine j_iload_n (pc := 31) rfl 2 rfl E dX2_findFirst_31 ?_
      refine JF.xb (fun y4 m5 h6 => ?_)
      refine j_callVi (pc := 32) (st := []) E (kX2_firstWord h6) mv_X2_firstWord rfl s_47 q_909 [.int v4, .int v2, .int v3] rfl rfl rfl (by decide) (Nat.le_of_ble_eq_true rfl) dX2_findFirst_32 ?_
      refine j_istore (pc := 35) (lv1 := [(5, .int y4), (0, .ref (xa X 47)), (2, .int v2), (3, .int v3), (4, .int v4)]) E dX2_findFirst_35 (by decide) rfl ?_
      refine j_iload (pc := 37) 0 rfl E dX2_findFirst_37 ?_
      refine j_iconst (pc := 39) (v := (-1)) (by decide) E dX2_findFirst_39 ?_
      refine j_icmp_ne (pc := 40) (tgt := 44) E dX2_findFirst_40 (by decide) ?_ ?_
      · refine JF.sub [] rfl ?_
        exact K43  m5
      · refine j_aload_n (pc := 44) rfl 1 rfl E dX2_findFirst_44 ?_
        refine j_get (pc := 45) E xuX2 rfl s_47 (k := 6) (by decide) q_288 rfl (xflds_ref rfl) dX2_findFirst_45 ?_
        refine j_iload (pc := 48) 0 rfl E dX2_findFirst_48 ?_
        refine JF.xb (fun y7 m8 h9 => ?_)
        refine j_callVi (pc := 50) (st := []) E (kX4_add xl_64 h9) mv_X4_add rfl s_64 q_913 [.int y4] rfl rfl rfl (by decide) (Nat.le_of_ble_eq_true rfl) dX2_findFirst_50 ?_
        refine j_pop (pc := 53) rfl E dX2_findFirst_53 ?_
        refine j_iload_n (pc := 54) rfl 3 rfl E dX2_findFirst_54 ?_
        refine j_aload_n (pc := 55) rfl 1 rfl E dX2_findFirst_55 ?_
        refine j_get (pc := 56) E xuX2 rfl s_47 (k := 1) (by decide) q_283 rfl (xflds_ref rfl) dX2_findFirst_56 ?_
        refine j_iload (pc := 59) 0 rfl E dX2_findFirst_59 ?_
        refine j_iload (pc := 61) 4 rfl E dX2_findFirst_61 ?_
        refine j_iconst (pc := 63) (v := 1) (by decide) E dX2_findFirst_63 ?_
        refine j_icmp_ne (pc := 64) (tgt := 71) E dX2_findFirst_64 (by decide) ?_ ?_
        · refine j_iconst (pc := 67) (v := 1) (by decide) E dX2_findFirst_67 ?_
          refine j_goto (pc := 68) (tgt := 72) E dX2_findFirst_68 (by decide) ?_
          refine JF.sub [1, 2, 4, 0] rfl ?_
          exact lX2_findFirst_J72 N v2 v4 y4 1 y4 v3 (fX2_findFirst_L21 N k43 k98 n) E R ih m8
        · refine j_iconst (pc := 71) (v := 0) (by decide) E dX2_findFirst_71 ?_
          refine JF.sub [1, 2, 4, 0] rfl ?_
          exact lX2_findFirst_J72 N v2 v4 y4 0 y4 v3 (fX2_findFirst_L21 N k43 k98 n) E R ih m8
def fX2_findFirst (N : Nat) (σ : XS) (p1 : Int32) : Option XO := xB (fX4_clear N σ 64) (fun y1 m2 => fX2_findFirst_L21 N (fun m16 => some (0, m16)) (fun m17 => some (0, m17)) N 0 (m2 46 1) p1 m2)
set_option maxRecDepth 100000 in
set_option maxHeartbeats 4000000 in
theorem kX2_findFirst {N : Nat} {σ : XS} {p1 : Int32} {o : XO} (h : fX2_findFirst N σ p1 = some o) : CtV yX2_findFirst cX2_findFirst 6 none 5 116 (fun Am ad => [.ref (Am 47), .int p1]) σ o := by
  refine ct_void (by decide) (fun _ _ => Nat.le_of_ble_eq_true rfl) (fun X E R => ?_)
  rw [← h]
  show JF X o 6 0 [(0, .ref (xa X 47)), (1, .int p1)] [] σ (xB (fX4_clear N σ 64) (fun y1 m2 => fX2_findFirst_L21 N (fun m16 => some (0, m16)) (fun m17 => some (0, m17)) N 0 (m2 46 1) p1 m2))
  refine j_aload_n (pc := 0) rfl 0 rfl E dX2_findFirst_0 ?_
  refine j_get (pc := 1) E xuX2 rfl s_47 (k := 6) (by decide) q_288 rfl (xflds_ref rfl) dX2_findFirst_1 ?_
  refine JF.xb (fun y1 m2 h3 => ?_)
  refine j_callVi (pc := 4) (st := []) E (kX4_clear xl_64 h3) mv_X4_clear rfl s_64 q_908 [] rfl rfl rfl (by decide) (Nat.le_of_ble_eq_true rfl) dX2_findFirst_4 ?_
  refine j_pop (pc := 7) rfl E dX2_findFirst_7 ?_
  refine j_iconst (pc := 8) (v := 0) (by decide) E dX2_findFirst_8 ?_
  refine j_istore_n (pc := 9) (lv1 := [(2, .int 0), (0, .ref (xa X 47)), (1, .int p1)]) E dX2_findFirst_9 rfl (by decide) rfl ?_
  refine j_aload_n (pc := 10) rfl 1 rfl E dX2_findFirst_10 ?_
  refine j_get (pc := 11) E xuX2 rfl s_47 (k := 1) (by decide) q_283 rfl (xflds_ref rfl) dX2_findFirst_11 ?_
  refine j_get (pc := 14) E xuX1 rfl s_46 (k := 1) (by decide) q_257 rfl (xflds_int rfl) dX2_findFirst_14 ?_
  refine j_istore_n (pc := 17) (lv1 := [(3, .int (m2 46 1)), (2, .int 0), (0, .ref (xa X 47)), (1, .int p1)]) E dX2_findFirst_17 rfl (by decide) rfl ?_
  refine j_iload_n (pc := 18) rfl 3 rfl E dX2_findFirst_18 ?_
  refine j_istore (pc := 19) (lv1 := [(4, .int p1), (3, .int (m2 46 1)), (2, .int 0), (0, .ref (xa X 47)), (1, .int p1)]) E dX2_findFirst_19 (by decide) rfl ?_
  refine JF.sub [3, 2, 1, 0] rfl ?_
  refine lX2_findFirst_L21 N _ _ E R (fun m16 => ?_) (fun m17 => ?_) N 0 (m2 46 1) p1 m2
  · exact j_vret (pc := 43) E R dX2_findFirst_43
  · exact j_vret (pc := 98) E R dX2_findFirst_98
def fX3_mostBehind_J107 (N : Nat) (v1 : Int32) (v2 : Int32) (v3 : Int32) (v4 : Int32) (v5 : Int32) (t0 : Int32) (k17 : Int32 → Int32 → XS → Option XO) (σ : XS) : Option XO := if t0 = 0 then xLetI (if v3 < v5 then v5 else v3) (fun x9 => k17 x9 (v4 + 1) σ) else xLetI (if v3 < (v5 + 1) then (v5 + 1) else v3) (fun x10 => k17 x10 (v4 + 1) σ)
set_option maxRecDepth 100000 in
set_option maxHeartbeats 4000000 in
theorem lX3_mostBehind_J107 (N : Nat) (v1 : Int32) (v2 : Int32) (v3 : Int32) (v4 : Int32) (v5 : Int32) (t0 : Int32) (k17 : Int32 → Int32 → XS → Option XO) {X : XC} {o : XO} (E : XE X cX3_mostBehind RX3 7 1 23) (R : XI X o cX3_mostBehind) (K17 : ∀ (v3 : Int32) (v4 : Int32) (σ : XS), JF X o 7 17 [(0, .ref (xa X 66)), (1, .int v1), (2, .int v2), (3, .int v3), (4, .int v4)] [] σ (k17 v3 v4 σ)) (σ : XS) : JF X o 7 107 [(0, .ref (xa X 66)), (1, .int v1), (2, .int v2), (3, .int v3), (4, .int v4), (5, .int v5)] [.int t0] σ (fX3_mostBehind_J107 N v1 v2 v3 v4 v5 t0 k17 σ) := by
  show JF X o 7 107 [(0, .ref (xa X 66)), (1, .int v1), (2, .int v2), (3, .int v3), (4, .int v4), (5, .int v5)] [.int t0] σ (if t0 = 0 then xLetI (if v3 < v5 then v5 else v3) (fun x9 => k17 x9 (v4 + 1) σ) else xLetI (if v3 < (v5 + 1) then (v5 + 1) else v3) (fun x10 => k17 x10 (v4 + 1) σ))
  refine j_istore (pc := 107) (lv1 := [(6, .int t0), (0, .ref (xa X 66)), (1, .int v1), (2, .int v2), (3, .int v3), (4, .int v4), (5, .int v5)]) E dX3_mostBehind_107 (by decide) rfl ?_
  refine j_iload_n (pc := 109) rfl 4 rfl E dX3_mostBehind_109 ?_
  refine j_iload (pc := 110) 0 rfl E dX3_mostBehind_110 ?_
  refine j_if_eq (pc := 112) (tgt := 122) E dX3_mostBehind_112 (by decide) ?_ ?_
  · refine j_iload (pc := 122) 6 rfl E dX3_mostBehind_122 ?_
    refine j_max (pc := 124) E q_936 q_937 q_74 q_938 (by decide) (Nat.le_of_ble_eq_true rfl) dX3_mostBehind_124 ?_
    refine JF.xletI (fun x9 => ?_)
    refine j_istore_n (pc := 127) (lv1 := [(3, .int x9), (6, .int t0), (0, .ref (xa X 66)), (1, .int v1), (2, .int v2), (4, .int v4), (5, .int v5)]) E dX3_mostBehind_127 rfl (by decide) rfl ?_
    refine j_iinc (pc := 128) (v := (v4 + 1)) (lv1 := [(4, .int (v4 + 1)), (3, .int x9), (6, .int t0), (0, .ref (xa X 66)), (1, .int v1), (2, .int v2), (5, .int v5)]) E dX3_mostBehind_128 5 rfl rfl (by decide) rfl ?_
    refine j_goto (pc := 131) (tgt := 17) E dX3_mostBehind_131 (by decide) ?_
    refine JF.sub [3, 4, 5, 1, 0] rfl ?_
    exact K17 x9 (v4 + 1) σ
  · refine j_iload (pc := 115) 6 rfl E dX3_mostBehind_115 ?_
    refine j_iconst (pc := 117) (v := 1) (by decide) E dX3_mostBehind_117 ?_
    refine j_iadd (pc := 118) E dX3_mostBehind_118 ?_
    refine j_goto (pc := 119) (tgt := 124) E dX3_mostBehind_119 (by decide) ?_
    refine j_max (pc := 124) E q_936 q_937 q_74 q_938 (by decide) (Nat.le_of_ble_eq_true rfl) dX3_mostBehind_124 ?_
    refine JF.xletI (fun x10 => ?_)
    refine j_istore_n (pc := 127) (lv1 := [(3, .int x10), (6, .int t0), (0, .ref (xa X 66)), (1, .int v1), (2, .int v2), (4, .int v4), (5, .int v5)]) E dX3_mostBehind_127 rfl (by decide) rfl ?_
    refine j_iinc (pc := 128) (v := (v4 + 1)) (lv1 := [(4, .int (v4 + 1)), (3, .int x10), (6, .int t0), (0, .ref (xa X 66)), (1, .int v1), (2, .int v2), (5, .int v5)]) E dX3_mostBehind_128 5 rfl rfl (by decide) rfl ?_
    refine j_goto (pc := 131) (tgt := 17) E dX3_mostBehind_131 (by decide) ?_
    refine JF.sub [3, 4, 5, 1, 0] rfl ?_
    exact K17 x10 (v4 + 1) σ
def fX3_mostBehind_J106 (N : Nat) (v1 : Int32) (v2 : Int32) (v3 : Int32) (v4 : Int32) (v5 : Int32) (k17 : Int32 → Int32 → XS → Option XO) (σ : XS) : Option XO := fX3_mostBehind_J107 N v1 v2 v3 v4 v5 0 k17 σ
set_option maxRecDepth 100000 in
set_option maxHeartbeats 4000000 in
theorem lX3_mostBehind_J106 (N : Nat) (v1 : Int32) (v2 : Int32) (v3 : Int32) (v4 : Int32) (v5 : Int32) (k17 : Int32 → Int32 → XS → Option XO) {X : XC} {o : XO} (E : XE X cX3_mostBehind RX3 7 1 23) (R : XI X o cX3_mostBehind) (K17 : ∀ (v3 : Int32) (v4 : Int32) (σ : XS), JF X o 7 17 [(0, .ref (xa X 66)), (1, .int v1), (2, .int v2), (3, .int v3), (4, .int v4)] [] σ (k17 v3 v4 σ)) (σ : XS) : JF X o 7 106 [(0, .ref (xa X 66)), (1, .int v1), (2, .int v2), (3, .int v3), (4, .int v4), (5, .int v5)] [] σ (fX3_mostBehind_J106 N v1 v2 v3 v4 v5 k17 σ) := by
  show JF X o 7 106 [(0, .ref (xa X 66)), (1, .int v1), (2, .int v2), (3, .int v3), (4, .int v4), (5, .int v5)] [] σ (fX3_mostBehind_J107 N v1 v2 v3 v4 v5 0 k17 σ)
  refine j_iconst (pc := 106) (v := 0) (by decide) E dX3_mostBehind_106 ?_
  refine JF.sub [0, 1, 2, 3, 4, 5] rfl ?_
  exact lX3_mostBehind_J107 N v1 v2 v3 v4 v5 0 k17 E R K17 σ
def fX3_mostBehind_L17 (N : Nat) (v1 : Int32) (v2 : Int32) (k134 : Int32 → XS → Option XO) : Nat → Int32 → Int32 → XS → Option XO
  | 0, _, _, _ => none
  | n + 1, v3, v4, σ => if (σ 1 9) ≤ v4 then k134 v3 σ else xB (fX8_fits N σ v4 v2) (fun y1 m2 => if y1 = 0 then fX3_mostBehind_L17 N v1 v2 k134 n v3 (v4 + 1) m2 else gd (xin (v1 - 1) 5) (xB (fX9_at N m2 3 v4) (fun y5 m6 => gd (xin ((v2 + y5) &&& 1) 2) (xLetI (m6 (68 + (v1 - 1).toNatClampNeg) ((v2 + y5) &&& 1).toNatClampNeg) (fun x8 => if x8 = (-1) then fX3_mostBehind_L17 N v1 v2 k134 n v3 (v4 + 1) m6 else if v1 ≤ 1 then fX3_mostBehind_J106 N v1 v2 v3 v4 x8 (fX3_mostBehind_L17 N v1 v2 k134 n) m6 else xB (fX9_at N m6 2 v4) (fun y11 m12 => if y11 = 1 then fX3_mostBehind_J107 N v1 v2 v3 v4 x8 1 (fX3_mostBehind_L17 N v1 v2 k134 n) m12 else fX3_mostBehind_J106 N v1 v2 v3 v4 x8 (fX3_mostBehind_L17 N v1 v2 k134 n) m12))))))
set_option maxRecDepth 100000 in
set_option maxHeartbeats 4000000 in
theorem lX3_mostBehind_L17 (N : Nat) (v1 : Int32) (v2 : Int32) (k134 : Int32 → XS → Option XO) {X : XC} {o : XO} (E : XE X cX3_mostBehind RX3 7 1 23) (R : XI X o cX3_mostBehind) (K134 : ∀ (v3 : Int32) (σ : XS), JF X o 7 134 [(3, .int v3)] [] σ (k134 v3 σ)) : ∀ (n : Nat) (v3 : Int32) (v4 : Int32) (σ : XS), JF X o 7 17 [(0, .ref (xa X 66)), (1, .int v1), (2, .int v2), (3, .int v3), (4, .int v4)] [] σ (fX3_mostBehind_L17 N v1 v2 k134 n v3 v4 σ) := by
  intro n
  induction n with
  | zero => intro v3 v4 σ; exact JF.none
  | succ n ih =>
    intro v3 v4 σ
    show JF X o 7 17 [(0, .ref (xa X 66)), (1, .int v1), (2, .int v2), (3, .int v3), (4, .int v4)] [] σ (if (σ 1 9) ≤ v4 then k134 v3 σ else xB (fX8_fits N σ v4 v2) (fun y1 m2 => if y1 = 0 then fX3_mostBehind_L17 N v1 v2 k134 n v3 (v4 + 1) m2 else gd (xin (v1 - 1) 5) (xB (fX9_at N m2 3 v4) (fun y5 m6 => gd (xin ((v2 + y5) &&& 1) 2) (xLetI (m6 (68 + (v1 - 1).toNatClampNeg) ((v2 + y5) &&& 1).toNatClampNeg) (fun x8 => if x8 = (-1) then fX3_mostBehind_L17 N v1 v2 k134 n v3 (v4 + 1) m6 else if v1 ≤ 1 then fX3_mostBehind_J106 N v1 v2 v3 v4 x8 (fX3_mostBehind_L17 N v1 v2 k134 n) m6 else xB (fX9_at N m6 2 v4) (fun y11 m12 => if y11 = 1 then fX3_mostBehind_J107 N v1 v2 v3 v4 x8 1 (fX3_mostBehind_L17 N v1 v2 k134 n) m12 else fX3_mostBehind_J106 N v1 v2 v3 v4 x8 (fX3_mostBehind_L17 N v1 v2 k134 n) m12)))))))
    refine j_iload (pc := 17) 4 rfl E dX3_mostBehind_17 ?_
    refine j_aload_n (pc := 19) rfl 0 rfl E dX3_mostBehind_19 ?_
    refine j_get (pc := 20) E xuX3 rfl s_66 (k := 0) (by decide) q_312 rfl (xflds_ref rfl) dX3_mostBehind_20 ?_
    refine j_get (pc := 23) E xuX8 rfl s_1 (k := 9) (by decide) q_118 rfl (xflds_int rfl) dX3_mostBehind_23 ?_
    refine j_icmp_ge (pc := 26) (tgt := 134) E dX3_mostBehind_26 (by decide) ?_ ?_
    · refine JF.sub [3] rfl ?_
      exact K134 v3 σ
    · refine j_aload_n (pc := 29) rfl 0 rfl E dX3_mostBehind_29 ?_
      refine j_get (pc := 30) E xuX3 rfl s_66 (k := 0) (by decide) q_312 rfl (xflds_ref rfl) dX3_mostBehind_30 ?_
      refine j_iload (pc := 33) 4 rfl E dX3_mostBehind_33 ?_
      refine j_iload_n (pc := 35) rfl 2 rfl E dX3_mostBehind_35 ?_
      refine JF.xb (fun y1 m2 h3 => ?_)
      refine j_callVi (pc := 36) (st := []) E (kX8_fits h3) mv_X8_fits rfl s_1 q_934 [.int v4, .int v2] rfl rfl rfl (by decide) (Nat.le_of_ble_eq_true rfl) dX3_mostBehind_36 ?_
      refine j_if_ne (pc := 39) (tgt := 45) E dX3_mostBehind_39 (by decide) ?_ ?_
      · refine j_goto (pc := 42) (tgt := 128) E dX3_mostBehind_42 (by decide) ?_
        refine j_iinc (pc := 128) (v := (v4 + 1)) (lv1 := [(4, .int (v4 + 1)), (0, .ref (xa X 66)), (1, .int v1), (2, .int v2), (3, .int v3)]) E dX3_mostBehind_128 4 rfl rfl (by decide) rfl ?_
        refine j_goto (pc := 131) (tgt := 17) E dX3_mostBehind_131 (by decide) ?_
        refine JF.sub [1, 2, 3, 4, 0] rfl ?_
        exact ih v3 (v4 + 1) m2
      · refine j_aload_n (pc := 45) rfl 0 rfl E dX3_mostBehind_45 ?_
        refine j_get (pc := 46) E xuX3 rfl s_66 (k := 1) (by decide) q_313 rfl (xflds_ref rfl) dX3_mostBehind_46 ?_
        refine j_iload_n (pc := 49) rfl 1 rfl E dX3_mostBehind_49 ?_
        refine j_iconst (pc := 50) (v := 1) (by decide) E dX3_mostBehind_50 ?_
        refine j_isub (pc := 51) E dX3_mostBehind_51 ?_
        refine j_aald (pc := 52) (b := 68) E s_67 (by decide) dX3_mostBehind_52 (fun g4 => ?_)
        refine j_iload_n (pc := 53) rfl 2 rfl E dX3_mostBehind_53 ?_
        refine j_aload_n (pc := 54) rfl 0 rfl E dX3_mostBehind_54 ?_
        refine j_get (pc := 55) E xuX3 rfl s_66 (k := 0) (by decide) q_312 rfl (xflds_ref rfl) dX3_mostBehind_55 ?_
        refine j_get (pc := 58) E xuX8 rfl s_1 (k := 1) (by decide) q_97 rfl (xflds_ref rfl) dX3_mostBehind_58 ?_
        refine j_iload (pc := 61) 4 rfl E dX3_mostBehind_61 ?_
        refine JF.xb (fun y5 m6 h7 => ?_)
        refine j_callSiN (pc := 63) (st := [.int v2, .ref (xa X (68 + (v1 - 1).toNatClampNeg))]) E (kX9_at xr_3 h7) mv_X9_at (by decide +kernel) [.ref (xa X 3), .int v4] rfl rfl rfl (by decide) (Nat.le_of_ble_eq_true rfl) dX3_mostBehind_63 ?_
        refine j_iadd (pc := 66) E dX3_mostBehind_66 ?_
        refine j_iconst (pc := 67) (v := 1) (by decide) E dX3_mostBehind_67 ?_
        refine j_iand (pc := 68) E dX3_mostBehind_68 ?_
        refine j_iald (pc := 69) E (xg_68 _ (xin_lt g4)) dX3_mostBehind_69 ?_
        refine JF.xletI (fun x8 => ?_)
        refine j_istore (pc := 70) (lv1 := [(5, .int x8), (0, .ref (xa X 66)), (1, .int v1), (2, .int v2), (3, .int v3), (4, .int v4)]) E dX3_mostBehind_70 (by decide) rfl ?_
        refine j_iload (pc := 72) 0 rfl E dX3_mostBehind_72 ?_
        refine j_iconst (pc := 74) (v := (-1)) (by decide) E dX3_mostBehind_74 ?_
        refine j_icmp_ne (pc := 75) (tgt := 81) E dX3_mostBehind_75 (by decide) ?_ ?_
        · refine j_goto (pc := 78) (tgt := 128) E dX3_mostBehind_78 (by decide) ?_
          refine j_iinc (pc := 128) (v := (v4 + 1)) (lv1 := [(4, .int (v4 + 1)), (5, .int x8), (0, .ref (xa X 66)), (1, .int v1), (2, .int v2), (3, .int v3)]) E dX3_mostBehind_128 5 rfl rfl (by decide) rfl ?_
          refine j_goto (pc := 131) (tgt := 17) E dX3_mostBehind_131 (by decide) ?_
          refine JF.sub [2, 3, 4, 5, 0] rfl ?_
          exact ih v3 (v4 + 1) m6
        · refine j_iload_n (pc := 81) rfl 2 rfl E dX3_mostBehind_81 ?_
          refine j_iconst (pc := 82) (v := 1) (by decide) E dX3_mostBehind_82 ?_
          refine j_icmp_le (pc := 83) (tgt := 106) E dX3_mostBehind_83 (by decide) ?_ ?_
          · refine JF.sub [1, 2, 3, 4, 5, 0] rfl ?_
            exact lX3_mostBehind_J106 N v1 v2 v3 v4 x8 (fX3_mostBehind_L17 N v1 v2 k134 n) E R ih m6
          · refine j_aload_n (pc := 86) rfl 1 rfl E dX3_mostBehind_86 ?_
            refine j_get (pc := 87) E xuX3 rfl s_66 (k := 0) (by decide) q_312 rfl (xflds_ref rfl) dX3_mostBehind_87 ?_
            refine j_get (pc := 90) E xuX8 rfl s_1 (k := 0) (by decide) q_93 rfl (xflds_ref rfl) dX3_mostBehind_90 ?_
            refine j_iload (pc := 93) 5 rfl E dX3_mostBehind_93 ?_
            refine JF.xb (fun y11 m12 h13 => ?_)
            refine j_callSiN (pc := 95) (st := []) E (kX9_at xr_2 h13) mv_X9_at (by decide +kernel) [.ref (xa X 2), .int v4] rfl rfl rfl (by decide) (Nat.le_of_ble_eq_true rfl) dX3_mostBehind_95 ?_
            refine j_iconst (pc := 98) (v := 1) (by decide) E dX3_mostBehind_98 ?_
            refine j_icmp_ne (pc := 99) (tgt := 106) E dX3_mostBehind_99 (by decide) ?_ ?_
            · refine j_iconst (pc := 102) (v := 1) (by decide) E dX3_mostBehind_102 ?_
              refine j_goto (pc := 103) (tgt := 107) E dX3_mostBehind_103 (by decide) ?_
              refine JF.sub [1, 2, 3, 4, 5, 0] rfl ?_
              exact lX3_mostBehind_J107 N v1 v2 v3 v4 x8 1 (fX3_mostBehind_L17 N v1 v2 k134 n) E R ih m12
            · refine JF.sub [1, 2, 3, 4, 5, 0] rfl ?_
              exact lX3_mostBehind_J106 N v1 v2 v3 v4 x8 (fX3_mostBehind_L17 N v1 v2 k134 n) E R ih m12
def fX3_mostBehind (N : Nat) (σ : XS) (p1 : Int32) (p2 : Int32) : Option XO := if p1 < 1 then some ((-1), σ) else if p1 ≤ 4 then fX3_mostBehind_L17 N p1 p2 (fun x14 m15 => some (x14, m15)) N (-1) 0 σ else some ((-1), σ)
set_option maxRecDepth 100000 in
set_option maxHeartbeats 4000000 in
theorem kX3_mostBehind {N : Nat} {σ : XS} {p1 : Int32} {p2 : Int32} {o : XO} (h : fX3_mostBehind N σ p1 p2 = some o) : CtI yX3_mostBehind cX3_mostBehind 7 (some .int) 1 23 (fun Am ad => [.ref (Am 66), .int p1, .int p2]) σ o := by
  refine ct_int (by decide) (fun _ _ => Nat.le_of_ble_eq_true rfl) (fun X E R => ?_)
  rw [← h]
  show JF X o 7 0 [(0, .ref (xa X 66)), (1, .int p1), (2, .int p2)] [] σ (if p1 < 1 then some ((-1), σ) else if p1 ≤ 4 then fX3_mostBehind_L17 N p1 p2 (fun x14 m15 => some (x14, m15)) N (-1) 0 σ else some ((-1), σ))
  refine j_iload_n (pc := 0) rfl 1 rfl E dX3_mostBehind_0 ?_
  refine j_iconst (pc := 1) (v := 1) (by decide) E dX3_mostBehind_1 ?_
  refine j_icmp_lt (pc := 2) (tgt := 10) E dX3_mostBehind_2 (by decide) ?_ ?_
  · refine j_iconst (pc := 10) (v := (-1)) (by decide) E dX3_mostBehind_10 ?_
    exact j_iret (pc := 11) E R dX3_mostBehind_11
  · refine j_iload_n (pc := 5) rfl 1 rfl E dX3_mostBehind_5 ?_
    refine j_iconst (pc := 6) (v := 4) (by decide) E dX3_mostBehind_6 ?_
    refine j_icmp_le (pc := 7) (tgt := 12) E dX3_mostBehind_7 (by decide) ?_ ?_
    · refine j_iconst (pc := 12) (v := (-1)) (by decide) E dX3_mostBehind_12 ?_
      refine j_istore_n (pc := 13) (lv1 := [(3, .int (-1)), (0, .ref (xa X 66)), (1, .int p1), (2, .int p2)]) E dX3_mostBehind_13 rfl (by decide) rfl ?_
      refine j_iconst (pc := 14) (v := 0) (by decide) E dX3_mostBehind_14 ?_
      refine j_istore (pc := 15) (lv1 := [(4, .int 0), (3, .int (-1)), (0, .ref (xa X 66)), (1, .int p1), (2, .int p2)]) E dX3_mostBehind_15 (by decide) rfl ?_
      refine JF.sub [2, 3, 4, 1, 0] rfl ?_
      refine lX3_mostBehind_L17 N p1 p2 _ E R (fun x14 m15 => ?_) N (-1) 0 σ
      · refine j_iload_n (pc := 134) rfl 0 rfl E dX3_mostBehind_134 ?_
        exact j_iret (pc := 135) E R dX3_mostBehind_135
    · refine j_iconst (pc := 10) (v := (-1)) (by decide) E dX3_mostBehind_10 ?_
      exact j_iret (pc := 11) E R dX3_mostBehind_11
