def fX3_most_L2 (N : Nat) (v1 : Int32) (k46 : XS → Option XO) : Nat → Int32 → XS → Option XO
  | 0, _, _ => none
  | n + 1, v2, σ => if v1 < v2 then k46 σ else if 4 < v2 then k46 σ else gd (xin v2 5) (xB (fX3_mostBehind N σ v2 0) (fun y2 m3 => xLet (xUp m3 (68 + v2.toNatClampNeg) (0 : Int32).toNatClampNeg y2) (fun m5 => gd (xin 0 2) (gd (xin v2 5) (xB (fX3_mostBehind N m5 v2 1) (fun y9 m10 => xLet (xUp m10 (68 + v2.toNatClampNeg) (1 : Int32).toNatClampNeg y9) (fun m12 => gd (xin 1 2) (fX3_most_L2 N v1 k46 n (v2 + 1) m12))))))))
set_option maxRecDepth 100000 in
set_option maxHeartbeats 4000000 in
theorem lX3_most_L2 (N : Nat) (v1 : Int32) (k46 : XS → Option XO) {X : XC} {o : XO} (E : XE X cX3_most RX3 3 2 49) (R : XI X o cX3_most) (K46 : ∀ (σ : XS), JF X o 3 46 [(0, .ref (xa X 66)), (1, .int v1)] [] σ (k46 σ)) : ∀ (n : Nat) (v2 : Int32) (σ : XS), JF X o 3 2 [(0, .ref (xa X 66)), (1, .int v1), (2, .int v2)] [] σ (fX3_most_L2 N v1 k46 n v2 σ) := by
  intro n
  induction n with
  | zero => intro v2 σ; exact JF.none
  | succ n ih =>
    intro v2 σ
    show JF X o 3 2 [(0, .ref (xa X 66)), (1, .int v1), (2, .int v2)] [] σ (if v1 < v2 then k46 σ else if 4 < v2 then k46 σ else gd (xin v2 5) (xB (fX3_mostBehind N σ v2 0) (fun y2 m3 => xLet (xUp m3 (68 + v2.toNatClampNeg) (0 : Int32).toNatClampNeg y2) (fun m5 => gd (xin 0 2) (gd (xin v2 5) (xB (fX3_mostBehind N m5 v2 1) (fun y9 m10 => xLet (xUp m10 (68 + v2.toNatClampNeg) (1 : Int32).toNatClampNeg y9) (fun m12 => gd (xin 1 2) (fX3_most_L2 N v1 k46 n (v2 + 1) m12)))))))))
    refine j_iload_n (pc := 2) rfl 2 rfl E dX3_most_2 ?_
    refine j_iload_n (pc := 3) rfl 1 rfl E dX3_most_3 ?_
    refine j_icmp_gt (pc := 4) (tgt := 46) E dX3_most_4 (by decide) ?_ ?_
    · refine JF.sub [0, 1] rfl ?_
      exact K46  σ
    · refine j_iload_n (pc := 7) rfl 2 rfl E dX3_most_7 ?_
      refine j_iconst (pc := 8) (v := 4) (by decide) E dX3_most_8 ?_
      refine j_icmp_gt (pc := 9) (tgt := 46) E dX3_most_9 (by decide) ?_ ?_
      · refine JF.sub [0, 1] rfl ?_
        exact K46  σ
      · refine j_aload_n (pc := 12) rfl 0 rfl E dX3_most_12 ?_
        refine j_get (pc := 13) E xuX3 rfl s_66 (k := 1) (by decide) q_313 rfl (xflds_ref rfl) dX3_most_13 ?_
        refine j_iload_n (pc := 16) rfl 2 rfl E dX3_most_16 ?_
        refine j_aald (pc := 17) (b := 68) E s_67 (by decide) dX3_most_17 (fun g1 => ?_)
        refine j_iconst (pc := 18) (v := 0) (by decide) E dX3_most_18 ?_
        refine j_aload_n (pc := 19) rfl 0 rfl E dX3_most_19 ?_
        refine j_iload_n (pc := 20) rfl 2 rfl E dX3_most_20 ?_
        refine j_iconst (pc := 21) (v := 0) (by decide) E dX3_most_21 ?_
        refine JF.xb (fun y2 m3 h4 => ?_)
        refine j_callVi (pc := 22) (st := [.int 0, .ref (xa X (68 + v2.toNatClampNeg))]) E (kX3_mostBehind h4) mv_X3_mostBehind rfl s_66 q_930 [.int v2, .int 0] rfl rfl rfl (by decide) (Nat.le_of_ble_eq_true rfl) dX3_most_22 ?_
        refine JF.xlet (fun m5 e6 => ?_)
        refine j_iast (pc := 25) E (xg_68 _ (xin_lt g1)) dX3_most_25 e6 ?_
        refine j_aload_n (pc := 26) rfl 0 rfl E dX3_most_26 ?_
        refine j_get (pc := 27) E xuX3 rfl s_66 (k := 1) (by decide) q_313 rfl (xflds_ref rfl) dX3_most_27 ?_
        refine j_iload_n (pc := 30) rfl 2 rfl E dX3_most_30 ?_
        refine j_aald (pc := 31) (b := 68) E s_67 (by decide) dX3_most_31 (fun g8 => ?_)
        refine j_iconst (pc := 32) (v := 1) (by decide) E dX3_most_32 ?_
        refine j_aload_n (pc := 33) rfl 0 rfl E dX3_most_33 ?_
        refine j_iload_n (pc := 34) rfl 2 rfl E dX3_most_34 ?_
        refine j_iconst (pc := 35) (v := 1) (by decide) E dX3_most_35 ?_
        refine JF.xb (fun y9 m10 h11 => ?_)
        refine j_callVi (pc := 36) (st := [.int 1, .ref (xa X (68 + v2.toNatClampNeg))]) E (kX3_mostBehind h11) mv_X3_mostBehind rfl s_66 q_930 [.int v2, .int 1] rfl rfl rfl (by decide) (Nat.le_of_ble_eq_true rfl) dX3_most_36 ?_
        refine JF.xlet (fun m12 e13 => ?_)
        refine j_iast (pc := 39) E (xg_68 _ (xin_lt g8)) dX3_most_39 e13 ?_
        refine j_iinc (pc := 40) (v := (v2 + 1)) (lv1 := [(2, .int (v2 + 1)), (0, .ref (xa X 66)), (1, .int v1)]) E dX3_most_40 2 rfl rfl (by decide) rfl ?_
        refine j_goto (pc := 43) (tgt := 2) E dX3_most_43 (by decide) ?_
        refine JF.sub [1, 2, 0] rfl ?_
        exact ih (v2 + 1) m12
def fX3_most_J46 (N : Nat) (v1 : Int32) (σ : XS) : Option XO := if v1 < 0 then some ((-1), σ) else if 4 < v1 then some ((-1), σ) else gd (xin v1 5) (gd (xin 0 2) (some ((σ (68 + v1.toNatClampNeg) (0 : Int32).toNatClampNeg), σ)))
set_option maxRecDepth 100000 in
set_option maxHeartbeats 4000000 in
theorem lX3_most_J46 (N : Nat) (v1 : Int32) {X : XC} {o : XO} (E : XE X cX3_most RX3 3 2 49) (R : XI X o cX3_most) (σ : XS) : JF X o 3 46 [(0, .ref (xa X 66)), (1, .int v1)] [] σ (fX3_most_J46 N v1 σ) := by
  show JF X o 3 46 [(0, .ref (xa X 66)), (1, .int v1)] [] σ (if v1 < 0 then some ((-1), σ) else if 4 < v1 then some ((-1), σ) else gd (xin v1 5) (gd (xin 0 2) (some ((σ (68 + v1.toNatClampNeg) (0 : Int32).toNatClampNeg), σ))))
  refine j_iload_n (pc := 46) rfl 1 rfl E dX3_most_46 ?_
  refine j_if_lt (pc := 47) (tgt := 66) E dX3_most_47 (by decide) ?_ ?_
  · refine j_iconst (pc := 66) (v := (-1)) (by decide) E dX3_most_66 ?_
    exact j_iret (pc := 67) E R dX3_most_67
  · refine j_iload_n (pc := 50) rfl 1 rfl E dX3_most_50 ?_
    refine j_iconst (pc := 51) (v := 4) (by decide) E dX3_most_51 ?_
    refine j_icmp_gt (pc := 52) (tgt := 66) E dX3_most_52 (by decide) ?_ ?_
    · refine j_iconst (pc := 66) (v := (-1)) (by decide) E dX3_most_66 ?_
      exact j_iret (pc := 67) E R dX3_most_67
    · refine j_aload_n (pc := 55) rfl 0 rfl E dX3_most_55 ?_
      refine j_get (pc := 56) E xuX3 rfl s_66 (k := 1) (by decide) q_313 rfl (xflds_ref rfl) dX3_most_56 ?_
      refine j_iload_n (pc := 59) rfl 1 rfl E dX3_most_59 ?_
      refine j_aald (pc := 60) (b := 68) E s_67 (by decide) dX3_most_60 (fun g16 => ?_)
      refine j_iconst (pc := 61) (v := 0) (by decide) E dX3_most_61 ?_
      refine j_iald (pc := 62) E (xg_68 _ (xin_lt g16)) dX3_most_62 ?_
      refine j_goto (pc := 63) (tgt := 67) E dX3_most_63 (by decide) ?_
      exact j_iret (pc := 67) E R dX3_most_67
def fX3_most (N : Nat) (σ : XS) (p1 : Int32) : Option XO := fX3_most_L2 N p1 (fun m15 => fX3_most_J46 N p1 m15) N 1 σ
set_option maxRecDepth 100000 in
set_option maxHeartbeats 4000000 in
theorem kX3_most {N : Nat} {σ : XS} {p1 : Int32} {o : XO} (h : fX3_most N σ p1 = some o) : CtI yX3_most cX3_most 3 (some .int) 2 49 (fun Am ad => [.ref (Am 66), .int p1]) σ o := by
  refine ct_int (by decide) (fun _ _ => Nat.le_of_ble_eq_true rfl) (fun X E R => ?_)
  rw [← h]
  show JF X o 3 0 [(0, .ref (xa X 66)), (1, .int p1)] [] σ (fX3_most_L2 N p1 (fun m15 => fX3_most_J46 N p1 m15) N 1 σ)
  refine j_iconst (pc := 0) (v := 1) (by decide) E dX3_most_0 ?_
  refine j_istore_n (pc := 1) (lv1 := [(2, .int 1), (0, .ref (xa X 66)), (1, .int p1)]) E dX3_most_1 rfl (by decide) rfl ?_
  refine JF.sub [1, 2, 0] rfl ?_
  refine lX3_most_L2 N p1 _ E R (fun m15 => ?_) N 1 σ
  · refine JF.sub [0, 1] rfl ?_
    exact lX3_most_J46 N p1 E R m15
def fX4_lastWord (N : Nat) (σ : XS) (L : Nat) : Option XO := xB (fX4_wordAt N σ L ((σ L 1) - 1)) (fun y1 m2 => some (y1, m2))
set_option maxRecDepth 100000 in
set_option maxHeartbeats 4000000 in
theorem kX4_lastWord {N : Nat} {σ : XS} {L : Nat} {o : XO} (hL : xLine L) (h : fX4_lastWord N σ L = some o) : CtI yX4_lastWord cX4_lastWord 1 (some .int) 1 21 (fun Am ad => [.ref (Am L)]) σ o := by
  refine ct_int (by decide) (fun _ _ => Nat.le_of_ble_eq_true rfl) (fun X E R => ?_)
  rw [← h]
  show JF X o 1 0 [(0, .ref (xa X L))] [] σ (xB (fX4_wordAt N σ L ((σ L 1) - 1)) (fun y1 m2 => some (y1, m2)))
  refine j_aload_n (pc := 0) rfl 0 rfl E dX4_lastWord_0 ?_
  refine j_aload_n (pc := 1) rfl 0 rfl E dX4_lastWord_1 ?_
  refine j_get (pc := 2) E xuX4 rfl hL.1 (k := 1) (by decide) q_241 rfl (xflds_int rfl) dX4_lastWord_2 ?_
  refine j_iconst (pc := 5) (v := 1) (by decide) E dX4_lastWord_5 ?_
  refine j_isub (pc := 6) E dX4_lastWord_6 ?_
  refine JF.xb (fun y1 m2 h3 => ?_)
  refine j_callVi (pc := 7) (st := []) E (kX4_wordAt hL h3) mv_X4_wordAt rfl hL.1 q_741 [.int ((σ L 1) - 1)] rfl rfl rfl (by decide) (Nat.le_of_ble_eq_true rfl) dX4_lastWord_7 ?_
  exact j_iret (pc := 10) E R dX4_lastWord_10
def fX4_copy (N : Nat) (σ : XS) (L : Nat) (L1 : Nat) : Option XO := xLet (xUf σ (L + 1) (va_cpy (σ (L1 + 1)) (σ (L + 1)) (0 : Int32).toNatClampNeg (0 : Int32).toNatClampNeg (6 : Int32).toNatClampNeg)) (fun m1 => xLet (xUp m1 L 1 (m1 L1 1)) (fun m3 => some (0, m3)))
set_option maxRecDepth 100000 in
set_option maxHeartbeats 4000000 in
theorem kX4_copy {N : Nat} {σ : XS} {L : Nat} {L1 : Nat} {o : XO} (hL : xLine L) (hL1 : xLine L1) (h : fX4_copy N σ L L1 = some o) : CtV yX4_copy cX4_copy 2 none 1 60 (fun Am ad => [.ref (Am L), .ref (Am L1)]) σ o := by
  refine ct_void (by decide) (fun _ _ => Nat.le_of_ble_eq_true rfl) (fun X E R => ?_)
  rw [← h]
  show JF X o 2 0 [(0, .ref (xa X L)), (1, .ref (xa X L1))] [] σ (xLet (xUf σ (L + 1) (va_cpy (σ (L1 + 1)) (σ (L + 1)) (0 : Int32).toNatClampNeg (0 : Int32).toNatClampNeg (6 : Int32).toNatClampNeg)) (fun m1 => xLet (xUp m1 L 1 (m1 L1 1)) (fun m3 => some (0, m3))))
  refine j_aload_n (pc := 0) rfl 1 rfl E dX4_copy_0 ?_
  refine j_get (pc := 1) E xuX4 rfl hL1.1 (k := 0) (by decide) q_239 rfl (xflds_ref rfl) dX4_copy_1 ?_
  refine j_iconst (pc := 4) (v := 0) (by decide) E dX4_copy_4 ?_
  refine j_aload_n (pc := 5) rfl 0 rfl E dX4_copy_5 ?_
  refine j_get (pc := 6) E xuX4 rfl hL.1 (k := 0) (by decide) q_239 rfl (xflds_ref rfl) dX4_copy_6 ?_
  refine j_iconst (pc := 9) (v := 0) (by decide) E dX4_copy_9 ?_
  refine j_bipush (pc := 10) (v := 6) (by decide) E dX4_copy_10 ?_
  refine JF.xlet (fun m1 e2 => ?_)
  refine j_copy (pc := 12) E hL1.2 hL.2 q_1039 q_764 q_763 q_73 (by decide) (by decide) (by decide) (by decide) (by decide) (by decide) (Nat.le_of_ble_eq_true rfl) dX4_copy_12 e2 ?_
  refine j_aload_n (pc := 15) rfl 0 rfl E dX4_copy_15 ?_
  refine j_aload_n (pc := 16) rfl 1 rfl E dX4_copy_16 ?_
  refine j_get (pc := 17) E xuX4 rfl hL1.1 (k := 1) (by decide) q_241 rfl (xflds_int rfl) dX4_copy_17 ?_
  refine JF.xlet (fun m3 e4 => ?_)
  refine j_put (pc := 20) E xuX4 tyX4 tyX4_ok nmX4 rfl hL.1 rfl (k := 1) (by decide) q_241 rfl rfl (ty := .int) (by decide +kernel) rfl rfl dX4_copy_20 e4 ?_
  exact j_vret (pc := 23) E R dX4_copy_23
def fX5_forget (N : Nat) (σ : XS) : Option XO := xLet (xUp σ 75 6 0) (fun m1 => xLet (xUp m1 75 7 0) (fun m3 => some (0, m3)))
set_option maxRecDepth 100000 in
set_option maxHeartbeats 4000000 in
theorem kX5_forget {N : Nat} {σ : XS} {o : XO} (h : fX5_forget N σ = some o) : CtV yX5_forget cX5_forget 1 none 0 0 (fun Am ad => [.ref (Am 75)]) σ o := by
  refine ct_void (by decide) (fun _ _ => Nat.le_of_ble_eq_true rfl) (fun X E R => ?_)
  rw [← h]
  show JF X o 1 0 [(0, .ref (xa X 75))] [] σ (xLet (xUp σ 75 6 0) (fun m1 => xLet (xUp m1 75 7 0) (fun m3 => some (0, m3))))
  refine j_aload_n (pc := 0) rfl 0 rfl E dX5_forget_0 ?_
  refine j_iconst (pc := 1) (v := 0) (by decide) E dX5_forget_1 ?_
  refine JF.xlet (fun m1 e2 => ?_)
  refine j_put (pc := 2) E xuX5 tyX5 tyX5_ok nmX5 rfl s_75 rfl (k := 6) (by decide) q_360 rfl rfl (ty := .int) (by decide +kernel) rfl rfl dX5_forget_2 e2 ?_
  refine j_aload_n (pc := 5) rfl 0 rfl E dX5_forget_5 ?_
  refine j_iconst (pc := 6) (v := 0) (by decide) E dX5_forget_6 ?_
  refine JF.xlet (fun m3 e4 => ?_)
  refine j_put (pc := 7) E xuX5 tyX5 tyX5_ok nmX5 rfl s_75 rfl (k := 7) (by decide) q_362 rfl rfl (ty := .int) (by decide +kernel) rfl rfl dX5_forget_7 e4 ?_
  exact j_vret (pc := 10) E R dX5_forget_10
def fX5_begin (N : Nat) (σ : XS) (p1 : Int32) : Option XO := xLet (xUp σ 75 6 (if 3 < p1 then 3 else p1)) (fun m1 => xLet (xUp m1 75 7 0) (fun m3 => some ((σ 75 7), m3)))
set_option maxRecDepth 100000 in
set_option maxHeartbeats 4000000 in
theorem kX5_begin {N : Nat} {σ : XS} {p1 : Int32} {o : XO} (h : fX5_begin N σ p1 = some o) : CtI yX5_begin cX5_begin 3 (some .int) 1 22 (fun Am ad => [.ref (Am 75), .int p1]) σ o := by
  refine ct_int (by decide) (fun _ _ => Nat.le_of_ble_eq_true rfl) (fun X E R => ?_)
  rw [← h]
  show JF X o 3 0 [(0, .ref (xa X 75)), (1, .int p1)] [] σ (xLet (xUp σ 75 6 (if 3 < p1 then 3 else p1)) (fun m1 => xLet (xUp m1 75 7 0) (fun m3 => some ((σ 75 7), m3))))
  refine j_aload_n (pc := 0) rfl 0 rfl E dX5_begin_0 ?_
  refine j_get (pc := 1) E xuX5 rfl s_75 (k := 7) (by decide) q_362 rfl (xflds_int rfl) dX5_begin_1 ?_
  refine j_istore_n (pc := 4) (lv1 := [(2, .int (σ 75 7)), (0, .ref (xa X 75)), (1, .int p1)]) E dX5_begin_4 rfl (by decide) rfl ?_
  refine j_aload_n (pc := 5) rfl 1 rfl E dX5_begin_5 ?_
  refine j_iload_n (pc := 6) rfl 2 rfl E dX5_begin_6 ?_
  refine j_iconst (pc := 7) (v := 3) (by decide) E dX5_begin_7 ?_
  refine j_min (pc := 8) E q_1004 q_766 q_74 q_767 (by decide) (Nat.le_of_ble_eq_true rfl) dX5_begin_8 ?_
  refine JF.xlet (fun m1 e2 => ?_)
  refine j_put (pc := 11) E xuX5 tyX5 tyX5_ok nmX5 rfl s_75 rfl (k := 6) (by decide) q_360 rfl rfl (ty := .int) (by decide +kernel) rfl rfl dX5_begin_11 e2 ?_
  refine j_aload_n (pc := 14) rfl 1 rfl E dX5_begin_14 ?_
  refine j_iconst (pc := 15) (v := 0) (by decide) E dX5_begin_15 ?_
  refine JF.xlet (fun m3 e4 => ?_)
  refine j_put (pc := 16) E xuX5 tyX5 tyX5_ok nmX5 rfl s_75 rfl (k := 7) (by decide) q_362 rfl rfl (ty := .int) (by decide +kernel) rfl rfl dX5_begin_16 e4 ?_
  refine j_iload_n (pc := 19) rfl 0 rfl E dX5_begin_19 ?_
  exact j_iret (pc := 20) E R dX5_begin_20
def fX5_add (N : Nat) (σ : XS) (p1 : Int32) (p2 : Int32) : Option XO := if 6 ≤ (σ 75 7) then some ((σ 75 7), σ) else xLet (xUp σ 76 (σ 75 7).toNatClampNeg p1) (fun m1 => gd (xin (σ 75 7) 6) (xLet (xUp m1 77 (m1 75 7).toNatClampNeg p2) (fun m4 => gd (xin (m1 75 7) 6) (xLet (xUp m4 75 7 ((m4 75 7) + 1)) (fun m7 => some ((m7 75 7), m7))))))
set_option maxRecDepth 100000 in
set_option maxHeartbeats 4000000 in
theorem kX5_add {N : Nat} {σ : XS} {p1 : Int32} {p2 : Int32} {o : XO} (h : fX5_add N σ p1 p2 = some o) : CtI yX5_add cX5_add 3 (some .int) 0 0 (fun Am ad => [.ref (Am 75), .int p1, .int p2]) σ o := by
  refine ct_int (by decide) (fun _ _ => Nat.le_of_ble_eq_true rfl) (fun X E R => ?_)
  rw [← h]
  show JF X o 3 0 [(0, .ref (xa X 75)), (1, .int p1), (2, .int p2)] [] σ (if 6 ≤ (σ 75 7) then some ((σ 75 7), σ) else xLet (xUp σ 76 (σ 75 7).toNatClampNeg p1) (fun m1 => gd (xin (σ 75 7) 6) (xLet (xUp m1 77 (m1 75 7).toNatClampNeg p2) (fun m4 => gd (xin (m1 75 7) 6) (xLet (xUp m4 75 7 ((m4 75 7) + 1)) (fun m7 => some ((m7 75 7), m7)))))))
  refine j_aload_n (pc := 0) rfl 0 rfl E dX5_add_0 ?_
  refine j_get (pc := 1) E xuX5 rfl s_75 (k := 7) (by decide) q_362 rfl (xflds_int rfl) dX5_add_1 ?_
  refine j_bipush (pc := 4) (v := 6) (by decide) E dX5_add_4 ?_
  refine j_icmp_ge (pc := 6) (tgt := 39) E dX5_add_6 (by decide) ?_ ?_
  · refine j_aload_n (pc := 39) rfl 0 rfl E dX5_add_39 ?_
    refine j_get (pc := 40) E xuX5 rfl s_75 (k := 7) (by decide) q_362 rfl (xflds_int rfl) dX5_add_40 ?_
    exact j_iret (pc := 43) E R dX5_add_43
  · refine j_aload_n (pc := 9) rfl 0 rfl E dX5_add_9 ?_
    refine j_get (pc := 10) E xuX5 rfl s_75 (k := 1) (by decide) q_353 rfl (xflds_ref rfl) dX5_add_10 ?_
    refine j_aload_n (pc := 13) rfl 0 rfl E dX5_add_13 ?_
    refine j_get (pc := 14) E xuX5 rfl s_75 (k := 7) (by decide) q_362 rfl (xflds_int rfl) dX5_add_14 ?_
    refine j_iload_n (pc := 17) rfl 1 rfl E dX5_add_17 ?_
    refine JF.xlet (fun m1 e2 => ?_)
    refine j_iast (pc := 18) E s_76 dX5_add_18 e2 ?_
    refine j_aload_n (pc := 19) rfl 0 rfl E dX5_add_19 ?_
    refine j_get (pc := 20) E xuX5 rfl s_75 (k := 2) (by decide) q_354 rfl (xflds_ref rfl) dX5_add_20 ?_
    refine j_aload_n (pc := 23) rfl 0 rfl E dX5_add_23 ?_
    refine j_get (pc := 24) E xuX5 rfl s_75 (k := 7) (by decide) q_362 rfl (xflds_int rfl) dX5_add_24 ?_
    refine j_iload_n (pc := 27) rfl 2 rfl E dX5_add_27 ?_
    refine JF.xlet (fun m4 e5 => ?_)
    refine j_iast (pc := 28) E s_77 dX5_add_28 e5 ?_
    refine j_aload_n (pc := 29) rfl 0 rfl E dX5_add_29 ?_
    refine j_dup (pc := 30) rfl E dX5_add_30 ?_
    refine j_get (pc := 31) E xuX5 rfl s_75 (k := 7) (by decide) q_362 rfl (xflds_int rfl) dX5_add_31 ?_
    refine j_iconst (pc := 34) (v := 1) (by decide) E dX5_add_34 ?_
    refine j_iadd (pc := 35) E dX5_add_35 ?_
    refine JF.xlet (fun m7 e8 => ?_)
    refine j_put (pc := 36) E xuX5 tyX5 tyX5_ok nmX5 rfl s_75 rfl (k := 7) (by decide) q_362 rfl rfl (ty := .int) (by decide +kernel) rfl rfl dX5_add_36 e8 ?_
    refine j_aload_n (pc := 39) rfl 0 rfl E dX5_add_39 ?_
    refine j_get (pc := 40) E xuX5 rfl s_75 (k := 7) (by decide) q_362 rfl (xflds_int rfl) dX5_add_40 ?_
    exact j_iret (pc := 43) E R dX5_add_43
def fX8_elisionsIn_L4 (N : Nat) (L1 : Nat) (k39 : Int32 → XS → Option XO) : Nat → Int32 → Int32 → XS → Option XO
  | 0, _, _, _ => none
  | n + 1, v2, v3, σ => if ((σ L1 1) - 1) ≤ v3 then k39 v2 σ else xB (fX4_wordAt N σ L1 v3) (fun y1 m2 => xB (fX9_at N m2 2 y1) (fun y4 m5 => if y4 = 1 then fX8_elisionsIn_L4 N L1 k39 n (v2 + 1) (v3 + 1) m5 else fX8_elisionsIn_L4 N L1 k39 n v2 (v3 + 1) m5))
set_option maxRecDepth 100000 in
set_option maxHeartbeats 4000000 in
theorem lX8_elisionsIn_L4 (N : Nat) (L1 : Nat) (k39 : Int32 → XS → Option XO) {X : XC} {o : XO} (E : XE X cX8_elisionsIn RX8 4 1 21) (R : XI X o cX8_elisionsIn) (hL1 : xLine L1) (K39 : ∀ (v2 : Int32) (σ : XS), JF X o 4 39 [(2, .int v2)] [] σ (k39 v2 σ)) : ∀ (n : Nat) (v2 : Int32) (v3 : Int32) (σ : XS), JF X o 4 4 [(0, .ref (xa X 1)), (1, .ref (xa X L1)), (2, .int v2), (3, .int v3)] [] σ (fX8_elisionsIn_L4 N L1 k39 n v2 v3 σ) := by
  intro n
  induction n with
  | zero => intro v2 v3 σ; exact JF.none
  | succ n ih =>
    intro v2 v3 σ
    show JF X o 4 4 [(0, .ref (xa X 1)), (1, .ref (xa X L1)), (2, .int v2), (3, .int v3)] [] σ (if ((σ L1 1) - 1) ≤ v3 then k39 v2 σ else xB (fX4_wordAt N σ L1 v3) (fun y1 m2 => xB (fX9_at N m2 2 y1) (fun y4 m5 => if y4 = 1 then fX8_elisionsIn_L4 N L1 k39 n (v2 + 1) (v3 + 1) m5 else fX8_elisionsIn_L4 N L1 k39 n v2 (v3 + 1) m5)))
    refine j_iload_n (pc := 4) rfl 3 rfl E dX8_elisionsIn_4 ?_
    refine j_aload_n (pc := 5) rfl 1 rfl E dX8_elisionsIn_5 ?_
    refine j_get (pc := 6) E xuX4 rfl hL1.1 (k := 1) (by decide) q_244 rfl (xflds_int rfl) dX8_elisionsIn_6 ?_
    refine j_iconst (pc := 9) (v := 1) (by decide) E dX8_elisionsIn_9 ?_
    refine j_isub (pc := 10) E dX8_elisionsIn_10 ?_
    refine j_icmp_ge (pc := 11) (tgt := 39) E dX8_elisionsIn_11 (by decide) ?_ ?_
    · refine JF.sub [2] rfl ?_
      exact K39 v2 σ
    · refine j_aload_n (pc := 14) rfl 0 rfl E dX8_elisionsIn_14 ?_
      refine j_get (pc := 15) E xuX8 rfl s_1 (k := 0) (by decide) q_92 rfl (xflds_ref rfl) dX8_elisionsIn_15 ?_
      refine j_aload_n (pc := 18) rfl 1 rfl E dX8_elisionsIn_18 ?_
      refine j_iload_n (pc := 19) rfl 3 rfl E dX8_elisionsIn_19 ?_
      refine JF.xb (fun y1 m2 h3 => ?_)
      refine j_callVi (pc := 20) (st := [.ref (xa X 2)]) E (kX4_wordAt hL1 h3) mv_X4_wordAt rfl hL1.1 q_674 [.int v3] rfl rfl rfl (by decide) (Nat.le_of_ble_eq_true rfl) dX8_elisionsIn_20 ?_
      refine JF.xb (fun y4 m5 h6 => ?_)
      refine j_callSiN (pc := 23) (st := []) E (kX9_at xr_2 h6) mv_X9_at (by decide +kernel) [.ref (xa X 2), .int y1] rfl rfl rfl (by decide) (Nat.le_of_ble_eq_true rfl) dX8_elisionsIn_23 ?_
      refine j_iconst (pc := 26) (v := 1) (by decide) E dX8_elisionsIn_26 ?_
      refine j_icmp_ne (pc := 27) (tgt := 33) E dX8_elisionsIn_27 (by decide) ?_ ?_
      · refine j_iinc (pc := 30) (v := (v2 + 1)) (lv1 := [(2, .int (v2 + 1)), (0, .ref (xa X 1)), (1, .ref (xa X L1)), (3, .int v3)]) E dX8_elisionsIn_30 2 rfl rfl (by decide) rfl ?_
        refine j_iinc (pc := 33) (v := (v3 + 1)) (lv1 := [(3, .int (v3 + 1)), (2, .int (v2 + 1)), (0, .ref (xa X 1)), (1, .ref (xa X L1))]) E dX8_elisionsIn_33 3 rfl rfl (by decide) rfl ?_
        refine j_goto (pc := 36) (tgt := 4) E dX8_elisionsIn_36 (by decide) ?_
        refine JF.sub [2, 3, 1, 0] rfl ?_
        exact ih (v2 + 1) (v3 + 1) m5
      · refine j_iinc (pc := 33) (v := (v3 + 1)) (lv1 := [(3, .int (v3 + 1)), (0, .ref (xa X 1)), (1, .ref (xa X L1)), (2, .int v2)]) E dX8_elisionsIn_33 3 rfl rfl (by decide) rfl ?_
        refine j_goto (pc := 36) (tgt := 4) E dX8_elisionsIn_36 (by decide) ?_
        refine JF.sub [1, 2, 3, 0] rfl ?_
        exact ih v2 (v3 + 1) m5
def fX8_elisionsIn (N : Nat) (σ : XS) (L1 : Nat) : Option XO := fX8_elisionsIn_L4 N L1 (fun x7 m8 => some (x7, m8)) N 0 0 σ
set_option maxRecDepth 100000 in
set_option maxHeartbeats 4000000 in
theorem kX8_elisionsIn {N : Nat} {σ : XS} {L1 : Nat} {o : XO} (hL1 : xLine L1) (h : fX8_elisionsIn N σ L1 = some o) : CtI yX8_elisionsIn cX8_elisionsIn 4 (some .int) 1 21 (fun Am ad => [.ref (Am 1), .ref (Am L1)]) σ o := by
  refine ct_int (by decide) (fun _ _ => Nat.le_of_ble_eq_true rfl) (fun X E R => ?_)
  rw [← h]
  show JF X o 4 0 [(0, .ref (xa X 1)), (1, .ref (xa X L1))] [] σ (fX8_elisionsIn_L4 N L1 (fun x7 m8 => some (x7, m8)) N 0 0 σ)
  refine j_iconst (pc := 0) (v := 0) (by decide) E dX8_elisionsIn_0 ?_
  refine j_istore_n (pc := 1) (lv1 := [(2, .int 0), (0, .ref (xa X 1)), (1, .ref (xa X L1))]) E dX8_elisionsIn_1 rfl (by decide) rfl ?_
  refine j_iconst (pc := 2) (v := 0) (by decide) E dX8_elisionsIn_2 ?_
  refine j_istore_n (pc := 3) (lv1 := [(3, .int 0), (2, .int 0), (0, .ref (xa X 1)), (1, .ref (xa X L1))]) E dX8_elisionsIn_3 rfl (by decide) rfl ?_
  refine JF.sub [2, 3, 1, 0] rfl ?_
  refine lX8_elisionsIn_L4 N L1 _ E R hL1 (fun x7 m8 => ?_) N 0 0 σ
  · refine j_iload_n (pc := 39) rfl 0 rfl E dX8_elisionsIn_39 ?_
    exact j_iret (pc := 40) E R dX8_elisionsIn_40
def fX8_syllablesOf_L4 (N : Nat) (L1 : Nat) (k33 : Int32 → XS → Option XO) : Nat → Int32 → Int32 → XS → Option XO
  | 0, _, _, _ => none
  | n + 1, v2, v3, σ => if (σ L1 1) ≤ v3 then k33 v2 σ else xB (fX4_wordAt N σ L1 v3) (fun y1 m2 => xB (fX9_at N m2 3 y1) (fun y4 m5 => fX8_syllablesOf_L4 N L1 k33 n (v2 + y4) (v3 + 1) m5))
set_option maxRecDepth 100000 in
set_option maxHeartbeats 4000000 in
theorem lX8_syllablesOf_L4 (N : Nat) (L1 : Nat) (k33 : Int32 → XS → Option XO) {X : XC} {o : XO} (E : XE X cX8_syllablesOf RX8 4 1 21) (R : XI X o cX8_syllablesOf) (hL1 : xLine L1) (K33 : ∀ (v2 : Int32) (σ : XS), JF X o 4 33 [(2, .int v2)] [] σ (k33 v2 σ)) : ∀ (n : Nat) (v2 : Int32) (v3 : Int32) (σ : XS), JF X o 4 4 [(0, .ref (xa X 1)), (1, .ref (xa X L1)), (2, .int v2), (3, .int v3)] [] σ (fX8_syllablesOf_L4 N L1 k33 n v2 v3 σ) := by
  intro n
  induction n with
  | zero => intro v2 v3 σ; exact JF.none
  | succ n ih =>
    intro v2 v3 σ
    show JF X o 4 4 [(0, .ref (xa X 1)), (1, .ref (xa X L1)), (2, .int v2), (3, .int v3)] [] σ (if (σ L1 1) ≤ v3 then k33 v2 σ else xB (fX4_wordAt N σ L1 v3) (fun y1 m2 => xB (fX9_at N m2 3 y1) (fun y4 m5 => fX8_syllablesOf_L4 N L1 k33 n (v2 + y4) (v3 + 1) m5)))
    refine j_iload_n (pc := 4) rfl 3 rfl E dX8_syllablesOf_4 ?_
    refine j_aload_n (pc := 5) rfl 1 rfl E dX8_syllablesOf_5 ?_
    refine j_get (pc := 6) E xuX4 rfl hL1.1 (k := 1) (by decide) q_244 rfl (xflds_int rfl) dX8_syllablesOf_6 ?_
    refine j_icmp_ge (pc := 9) (tgt := 33) E dX8_syllablesOf_9 (by decide) ?_ ?_
    · refine JF.sub [2] rfl ?_
      exact K33 v2 σ
    · refine j_iload_n (pc := 12) rfl 2 rfl E dX8_syllablesOf_12 ?_
      refine j_aload_n (pc := 13) rfl 0 rfl E dX8_syllablesOf_13 ?_
      refine j_get (pc := 14) E xuX8 rfl s_1 (k := 1) (by decide) q_96 rfl (xflds_ref rfl) dX8_syllablesOf_14 ?_
      refine j_aload_n (pc := 17) rfl 1 rfl E dX8_syllablesOf_17 ?_
      refine j_iload_n (pc := 18) rfl 3 rfl E dX8_syllablesOf_18 ?_
      refine JF.xb (fun y1 m2 h3 => ?_)
      refine j_callVi (pc := 19) (st := [.ref (xa X 3), .int v2]) E (kX4_wordAt hL1 h3) mv_X4_wordAt rfl hL1.1 q_674 [.int v3] rfl rfl rfl (by decide) (Nat.le_of_ble_eq_true rfl) dX8_syllablesOf_19 ?_
      refine JF.xb (fun y4 m5 h6 => ?_)
      refine j_callSiN (pc := 22) (st := [.int v2]) E (kX9_at xr_3 h6) mv_X9_at (by decide +kernel) [.ref (xa X 3), .int y1] rfl rfl rfl (by decide) (Nat.le_of_ble_eq_true rfl) dX8_syllablesOf_22 ?_
      refine j_iadd (pc := 25) E dX8_syllablesOf_25 ?_
      refine j_istore_n (pc := 26) (lv1 := [(2, .int (v2 + y4)), (0, .ref (xa X 1)), (1, .ref (xa X L1)), (3, .int v3)]) E dX8_syllablesOf_26 rfl (by decide) rfl ?_
      refine j_iinc (pc := 27) (v := (v3 + 1)) (lv1 := [(3, .int (v3 + 1)), (2, .int (v2 + y4)), (0, .ref (xa X 1)), (1, .ref (xa X L1))]) E dX8_syllablesOf_27 3 rfl rfl (by decide) rfl ?_
      refine j_goto (pc := 30) (tgt := 4) E dX8_syllablesOf_30 (by decide) ?_
      refine JF.sub [2, 3, 1, 0] rfl ?_
      exact ih (v2 + y4) (v3 + 1) m5
def fX8_syllablesOf (N : Nat) (σ : XS) (L1 : Nat) : Option XO := fX8_syllablesOf_L4 N L1 (fun x7 m8 => some (x7, m8)) N 0 0 σ
set_option maxRecDepth 100000 in
set_option maxHeartbeats 4000000 in
theorem kX8_syllablesOf {N : Nat} {σ : XS} {L1 : Nat} {o : XO} (hL1 : xLine L1) (h : fX8_syllablesOf N σ L1 = some o) : CtI yX8_syllablesOf cX8_syllablesOf 4 (some .int) 1 21 (fun Am ad => [.ref (Am 1), .ref (Am L1)]) σ o := by
  refine ct_int (by decide) (fun _ _ => Nat.le_of_ble_eq_true rfl) (fun X E R => ?_)
  rw [← h]
  show JF X o 4 0 [(0, .ref (xa X 1)), (1, .ref (xa X L1))] [] σ (fX8_syllablesOf_L4 N L1 (fun x7 m8 => some (x7, m8)) N 0 0 σ)
  refine j_iconst (pc := 0) (v := 0) (by decide) E dX8_syllablesOf_0 ?_
  refine j_istore_n (pc := 1) (lv1 := [(2, .int 0), (0, .ref (xa X 1)), (1, .ref (xa X L1))]) E dX8_syllablesOf_1 rfl (by decide) rfl ?_
  refine j_iconst (pc := 2) (v := 0) (by decide) E dX8_syllablesOf_2 ?_
  refine j_istore_n (pc := 3) (lv1 := [(3, .int 0), (2, .int 0), (0, .ref (xa X 1)), (1, .ref (xa X L1))]) E dX8_syllablesOf_3 rfl (by decide) rfl ?_
  refine JF.sub [2, 3, 1, 0] rfl ?_
  refine lX8_syllablesOf_L4 N L1 _ E R hL1 (fun x7 m8 => ?_) N 0 0 σ
  · refine j_iload_n (pc := 33) rfl 0 rfl E dX8_syllablesOf_33 ?_
    exact j_iret (pc := 34) E R dX8_syllablesOf_34
def fX5_agrees_L28 (N : Nat) (v1 : Int32) (v2 : Int32) (k72 : XS → Option XO) (k80 : XS → Option XO) : Nat → Int32 → XS → Option XO
  | 0, _, _ => none
  | n + 1, v3, σ => if (σ 75 7) ≤ v3 then k80 σ else if 6 ≤ v3 then k80 σ else gd (xin v3 6) (gd (xin v3 6) (xB (fX8_slurs N σ (σ 76 v3.toNatClampNeg)) (fun y7 m8 => if y7 = 0 then if (σ 77 v3.toNatClampNeg) = v1 then fX5_agrees_L28 N v1 v2 k72 k80 n (v3 + 1) m8 else k72 m8 else if (σ 77 v3.toNatClampNeg) = v2 then fX5_agrees_L28 N v1 v2 k72 k80 n (v3 + 1) m8 else k72 m8)))
set_option maxRecDepth 100000 in
set_option maxHeartbeats 4000000 in
theorem lX5_agrees_L28 (N : Nat) (v1 : Int32) (v2 : Int32) (k72 : XS → Option XO) (k80 : XS → Option XO) {X : XC} {o : XO} (E : XE X cX5_agrees RX5 4 2 44) (R : XZ X o cX5_agrees .boolean) (K72 : ∀ (σ : XS), JF X o 4 72 [] [] σ (k72 σ)) (K80 : ∀ (σ : XS), JF X o 4 80 [] [] σ (k80 σ)) : ∀ (n : Nat) (v3 : Int32) (σ : XS), JF X o 4 28 [(0, .ref (xa X 75)), (1, .int v1), (2, .int v2), (3, .int v3)] [] σ (fX5_agrees_L28 N v1 v2 k72 k80 n v3 σ) := by
  intro n
  induction n with
  | zero => intro v3 σ; exact JF.none
  | succ n ih =>
    intro v3 σ
    show JF X o 4 28 [(0, .ref (xa X 75)), (1, .int v1), (2, .int v2), (3, .int v3)] [] σ (if (σ 75 7) ≤ v3 then k80 σ else if 6 ≤ v3 then k80 σ else gd (xin v3 6) (gd (xin v3 6) (xB (fX8_slurs N σ (σ 76 v3.toNatClampNeg)) (fun y7 m8 => if y7 = 0 then if (σ 77 v3.toNatClampNeg) = v1 then fX5_agrees_L28 N v1 v2 k72 k80 n (v3 + 1) m8 else k72 m8 else if (σ 77 v3.toNatClampNeg) = v2 then fX5_agrees_L28 N v1 v2 k72 k80 n (v3 + 1) m8 else k72 m8))))
    refine j_iload_n (pc := 28) rfl 3 rfl E dX5_agrees_28 ?_
    refine j_aload_n (pc := 29) rfl 0 rfl E dX5_agrees_29 ?_
    refine j_get (pc := 30) E xuX5 rfl s_75 (k := 7) (by decide) q_362 rfl (xflds_int rfl) dX5_agrees_30 ?_
    refine j_icmp_ge (pc := 33) (tgt := 80) E dX5_agrees_33 (by decide) ?_ ?_
    · refine JF.sub [] rfl ?_
      exact K80  σ
    · refine j_iload_n (pc := 36) rfl 3 rfl E dX5_agrees_36 ?_
      refine j_bipush (pc := 37) (v := 6) (by decide) E dX5_agrees_37 ?_
      refine j_icmp_ge (pc := 39) (tgt := 80) E dX5_agrees_39 (by decide) ?_ ?_
      · refine JF.sub [] rfl ?_
        exact K80  σ
      · refine j_aload_n (pc := 42) rfl 0 rfl E dX5_agrees_42 ?_
        refine j_get (pc := 43) E xuX5 rfl s_75 (k := 2) (by decide) q_354 rfl (xflds_ref rfl) dX5_agrees_43 ?_
        refine j_iload_n (pc := 46) rfl 3 rfl E dX5_agrees_46 ?_
        refine j_iald (pc := 47) E s_77 dX5_agrees_47 ?_
        refine j_aload_n (pc := 48) rfl 0 rfl E dX5_agrees_48 ?_
        refine j_get (pc := 49) E xuX5 rfl s_75 (k := 0) (by decide) q_352 rfl (xflds_ref rfl) dX5_agrees_49 ?_
        refine j_aload_n (pc := 52) rfl 0 rfl E dX5_agrees_52 ?_
        refine j_get (pc := 53) E xuX5 rfl s_75 (k := 1) (by decide) q_353 rfl (xflds_ref rfl) dX5_agrees_53 ?_
        refine j_iload_n (pc := 56) rfl 3 rfl E dX5_agrees_56 ?_
        refine j_iald (pc := 57) E s_76 dX5_agrees_57 ?_
        refine JF.xb (fun y7 m8 h9 => ?_)
        refine j_callVi (pc := 58) (st := [.int (σ 77 v3.toNatClampNeg)]) E (kX8_slurs h9) mv_X8_slurs rfl s_1 q_1030 [.int (σ 76 v3.toNatClampNeg)] rfl rfl rfl (by decide) (Nat.le_of_ble_eq_true rfl) dX5_agrees_58 ?_
        refine j_if_eq (pc := 61) (tgt := 68) E dX5_agrees_61 (by decide) ?_ ?_
        · refine j_iload_n (pc := 68) rfl 1 rfl E dX5_agrees_68 ?_
          refine j_icmp_eq (pc := 69) (tgt := 74) E dX5_agrees_69 (by decide) ?_ ?_
          · refine j_iinc (pc := 74) (v := (v3 + 1)) (lv1 := [(3, .int (v3 + 1)), (0, .ref (xa X 75)), (1, .int v1), (2, .int v2)]) E dX5_agrees_74 3 rfl rfl (by decide) rfl ?_
            refine j_goto (pc := 77) (tgt := 28) E dX5_agrees_77 (by decide) ?_
            refine JF.sub [1, 2, 3, 0] rfl ?_
            exact ih (v3 + 1) m8
          · refine JF.sub [] rfl ?_
            exact K72  m8
        · refine j_iload_n (pc := 64) rfl 2 rfl E dX5_agrees_64 ?_
          refine j_goto (pc := 65) (tgt := 69) E dX5_agrees_65 (by decide) ?_
          refine j_icmp_eq (pc := 69) (tgt := 74) E dX5_agrees_69 (by decide) ?_ ?_
          · refine j_iinc (pc := 74) (v := (v3 + 1)) (lv1 := [(3, .int (v3 + 1)), (0, .ref (xa X 75)), (1, .int v1), (2, .int v2)]) E dX5_agrees_74 3 rfl rfl (by decide) rfl ?_
            refine j_goto (pc := 77) (tgt := 28) E dX5_agrees_77 (by decide) ?_
            refine JF.sub [1, 2, 3, 0] rfl ?_
            exact ih (v3 + 1) m8
          · refine JF.sub [] rfl ?_
            exact K72  m8
def fX5_agrees (N : Nat) (σ : XS) : Option XO := xB (fX8_syllablesOf N σ 78) (fun y1 m2 => xB (fX8_elisionsIn N m2 78) (fun y4 m5 => fX5_agrees_L28 N y1 (y1 - y4) (fun m10 => some (0, m10)) (fun m11 => some (1, m11)) N 0 m5))
set_option maxRecDepth 100000 in
set_option maxHeartbeats 4000000 in
theorem kX5_agrees {N : Nat} {σ : XS} {o : XO} (h : fX5_agrees N σ = some o) : CtI yX5_agrees cX5_agrees 4 (some .boolean) 2 44 (fun Am ad => [.ref (Am 75)]) σ o := by
  refine ct_z (by decide) (fun _ _ => Nat.le_of_ble_eq_true rfl) (fun X E R => ?_)
  rw [← h]
  show JF X o 4 0 [(0, .ref (xa X 75))] [] σ (xB (fX8_syllablesOf N σ 78) (fun y1 m2 => xB (fX8_elisionsIn N m2 78) (fun y4 m5 => fX5_agrees_L28 N y1 (y1 - y4) (fun m10 => some (0, m10)) (fun m11 => some (1, m11)) N 0 m5)))
  refine j_aload_n (pc := 0) rfl 0 rfl E dX5_agrees_0 ?_
  refine j_get (pc := 1) E xuX5 rfl s_75 (k := 0) (by decide) q_352 rfl (xflds_ref rfl) dX5_agrees_1 ?_
  refine j_aload_n (pc := 4) rfl 0 rfl E dX5_agrees_4 ?_
  refine j_get (pc := 5) E xuX5 rfl s_75 (k := 3) (by decide) q_355 rfl (xflds_ref rfl) dX5_agrees_5 ?_
  refine JF.xb (fun y1 m2 h3 => ?_)
  refine j_callVi (pc := 8) (st := []) E (kX8_syllablesOf xl_78 h3) mv_X8_syllablesOf rfl s_1 q_1028 [.ref (xa X 78)] rfl rfl rfl (by decide) (Nat.le_of_ble_eq_true rfl) dX5_agrees_8 ?_
  refine j_istore_n (pc := 11) (lv1 := [(1, .int y1), (0, .ref (xa X 75))]) E dX5_agrees_11 rfl (by decide) rfl ?_
  refine j_iload_n (pc := 12) rfl 0 rfl E dX5_agrees_12 ?_
  refine j_aload_n (pc := 13) rfl 1 rfl E dX5_agrees_13 ?_
  refine j_get (pc := 14) E xuX5 rfl s_75 (k := 0) (by decide) q_352 rfl (xflds_ref rfl) dX5_agrees_14 ?_
  refine j_aload_n (pc := 17) rfl 1 rfl E dX5_agrees_17 ?_
  refine j_get (pc := 18) E xuX5 rfl s_75 (k := 3) (by decide) q_355 rfl (xflds_ref rfl) dX5_agrees_18 ?_
  refine JF.xb (fun y4 m5 h6 => ?_)
  refine j_callVi (pc := 21) (st := [.int y1]) E (kX8_elisionsIn xl_78 h6) mv_X8_elisionsIn rfl s_1 q_1029 [.ref (xa X 78)] rfl rfl rfl (by decide) (Nat.le_of_ble_eq_true rfl) dX5_agrees_21 ?_
  refine j_isub (pc := 24) E dX5_agrees_24 ?_
  refine j_istore_n (pc := 25) (lv1 := [(2, .int (y1 - y4)), (1, .int y1), (0, .ref (xa X 75))]) E dX5_agrees_25 rfl (by decide) rfl ?_
  refine j_iconst (pc := 26) (v := 0) (by decide) E dX5_agrees_26 ?_
  refine j_istore_n (pc := 27) (lv1 := [(3, .int 0), (2, .int (y1 - y4)), (1, .int y1), (0, .ref (xa X 75))]) E dX5_agrees_27 rfl (by decide) rfl ?_
  refine JF.sub [3, 2, 1, 0] rfl ?_
  refine lX5_agrees_L28 N y1 (y1 - y4) _ _ E R (fun m10 => ?_) (fun m11 => ?_) N 0 m5
  · refine j_iconst (pc := 72) (v := 0) (by decide) E dX5_agrees_72 ?_
    exact j_zret (pc := 73) E R rfl dX5_agrees_73
  · refine j_iconst (pc := 80) (v := 1) (by decide) E dX5_agrees_80 ?_
    exact j_zret (pc := 81) E R rfl dX5_agrees_81
def fX5_moveOn_L11 (N : Nat) (k47 : XS → Option XO) (k64 : XS → Option XO) : Nat → Int32 → XS → Option XO
  | 0, _, _ => none
  | n + 1, v1, σ => if v1 < 0 then k64 σ else gd (xin v1 6) (xLet (xUp σ 79 v1.toNatClampNeg ((σ 79 v1.toNatClampNeg) + 1)) (fun m2 => gd (xin v1 6) (gd (xin v1 6) (if (m2 1 9) ≤ (m2 79 v1.toNatClampNeg) then xLet (xUp m2 79 v1.toNatClampNeg 0) (fun m5 => gd (xin v1 6) (fX5_moveOn_L11 N k47 k64 n (v1 + (-1)) m5)) else k47 m2))))
set_option maxRecDepth 100000 in
set_option maxHeartbeats 4000000 in
theorem lX5_moveOn_L11 (N : Nat) (k47 : XS → Option XO) (k64 : XS → Option XO) {X : XC} {o : XO} (E : XE X cX5_moveOn RX5 2 1 22) (R : XV X o cX5_moveOn) (K47 : ∀ (σ : XS), JF X o 2 47 [] [] σ (k47 σ)) (K64 : ∀ (σ : XS), JF X o 2 64 [] [] σ (k64 σ)) : ∀ (n : Nat) (v1 : Int32) (σ : XS), JF X o 2 11 [(0, .ref (xa X 75)), (1, .int v1)] [] σ (fX5_moveOn_L11 N k47 k64 n v1 σ) := by
  intro n
  induction n with
  | zero => intro v1 σ; exact JF.none
  | succ n ih =>
    intro v1 σ
    show JF X o 2 11 [(0, .ref (xa X 75)), (1, .int v1)] [] σ (if v1 < 0 then k64 σ else gd (xin v1 6) (xLet (xUp σ 79 v1.toNatClampNeg ((σ 79 v1.toNatClampNeg) + 1)) (fun m2 => gd (xin v1 6) (gd (xin v1 6) (if (m2 1 9) ≤ (m2 79 v1.toNatClampNeg) then xLet (xUp m2 79 v1.toNatClampNeg 0) (fun m5 => gd (xin v1 6) (fX5_moveOn_L11 N k47 k64 n (v1 + (-1)) m5)) else k47 m2)))))
    refine j_iload_n (pc := 11) rfl 1 rfl E dX5_moveOn_11 ?_
    refine j_if_lt (pc := 12) (tgt := 64) E dX5_moveOn_12 (by decide) ?_ ?_
    · refine JF.sub [] rfl ?_
      exact K64  σ
    · refine j_aload_n (pc := 15) rfl 0 rfl E dX5_moveOn_15 ?_
      refine j_get (pc := 16) E xuX5 rfl s_75 (k := 3) (by decide) q_355 rfl (xflds_ref rfl) dX5_moveOn_16 ?_
      refine j_get (pc := 19) E xuX4 rfl s_78 (k := 0) (by decide) q_240 rfl (xflds_ref rfl) dX5_moveOn_19 ?_
      refine j_iload_n (pc := 22) rfl 1 rfl E dX5_moveOn_22 ?_
      refine j_dup2 (pc := 23) rfl rfl E dX5_moveOn_23 ?_
      refine j_iald (pc := 24) E s_79 dX5_moveOn_24 ?_
      refine j_iconst (pc := 25) (v := 1) (by decide) E dX5_moveOn_25 ?_
      refine j_iadd (pc := 26) E dX5_moveOn_26 ?_
      refine JF.xlet (fun m2 e3 => ?_)
      refine j_iast (pc := 27) E s_79 dX5_moveOn_27 e3 ?_
      refine j_aload_n (pc := 28) rfl 0 rfl E dX5_moveOn_28 ?_
      refine j_get (pc := 29) E xuX5 rfl s_75 (k := 3) (by decide) q_355 rfl (xflds_ref rfl) dX5_moveOn_29 ?_
      refine j_get (pc := 32) E xuX4 rfl s_78 (k := 0) (by decide) q_240 rfl (xflds_ref rfl) dX5_moveOn_32 ?_
      refine j_iload_n (pc := 35) rfl 1 rfl E dX5_moveOn_35 ?_
      refine j_iald (pc := 36) E s_79 dX5_moveOn_36 ?_
      refine j_aload_n (pc := 37) rfl 0 rfl E dX5_moveOn_37 ?_
      refine j_get (pc := 38) E xuX5 rfl s_75 (k := 0) (by decide) q_352 rfl (xflds_ref rfl) dX5_moveOn_38 ?_
      refine j_get (pc := 41) E xuX8 rfl s_1 (k := 9) (by decide) q_121 rfl (xflds_int rfl) dX5_moveOn_41 ?_
      refine j_icmp_ge (pc := 44) (tgt := 48) E dX5_moveOn_44 (by decide) ?_ ?_
      · refine j_aload_n (pc := 48) rfl 0 rfl E dX5_moveOn_48 ?_
        refine j_get (pc := 49) E xuX5 rfl s_75 (k := 3) (by decide) q_355 rfl (xflds_ref rfl) dX5_moveOn_49 ?_
        refine j_get (pc := 52) E xuX4 rfl s_78 (k := 0) (by decide) q_240 rfl (xflds_ref rfl) dX5_moveOn_52 ?_
        refine j_iload_n (pc := 55) rfl 1 rfl E dX5_moveOn_55 ?_
        refine j_iconst (pc := 56) (v := 0) (by decide) E dX5_moveOn_56 ?_
        refine JF.xlet (fun m5 e6 => ?_)
        refine j_iast (pc := 57) E s_79 dX5_moveOn_57 e6 ?_
        refine j_iinc (pc := 58) (v := (v1 + (-1))) (lv1 := [(1, .int (v1 + (-1))), (0, .ref (xa X 75))]) E dX5_moveOn_58 1 rfl rfl (by decide) rfl ?_
        refine j_goto (pc := 61) (tgt := 11) E dX5_moveOn_61 (by decide) ?_
        refine JF.sub [1, 0] rfl ?_
        exact ih (v1 + (-1)) m5
      · refine JF.sub [] rfl ?_
        exact K47  m2
def fX5_moveOn (N : Nat) (σ : XS) : Option XO := xLetI ((if 3 < (σ 75 6) then 3 else (σ 75 6)) - 1) (fun x1 => fX5_moveOn_L11 N (fun m8 => some (0, m8)) (fun m9 => some (0, m9)) N x1 σ)
set_option maxRecDepth 100000 in
set_option maxHeartbeats 4000000 in
theorem kX5_moveOn {N : Nat} {σ : XS} {o : XO} (h : fX5_moveOn N σ = some o) : CtV yX5_moveOn cX5_moveOn 2 none 1 22 (fun Am ad => [.ref (Am 75)]) σ o := by
  refine ct_void (by decide) (fun _ _ => Nat.le_of_ble_eq_true rfl) (fun X E R => ?_)
  rw [← h]
  show JF X o 2 0 [(0, .ref (xa X 75))] [] σ (xLetI ((if 3 < (σ 75 6) then 3 else (σ 75 6)) - 1) (fun x1 => fX5_moveOn_L11 N (fun m8 => some (0, m8)) (fun m9 => some (0, m9)) N x1 σ))
  refine j_aload_n (pc := 0) rfl 0 rfl E dX5_moveOn_0 ?_
  refine j_get (pc := 1) E xuX5 rfl s_75 (k := 6) (by decide) q_360 rfl (xflds_int rfl) dX5_moveOn_1 ?_
  refine j_iconst (pc := 4) (v := 3) (by decide) E dX5_moveOn_4 ?_
  refine j_min (pc := 5) E q_1004 q_766 q_74 q_767 (by decide) (Nat.le_of_ble_eq_true rfl) dX5_moveOn_5 ?_
  refine j_iconst (pc := 8) (v := 1) (by decide) E dX5_moveOn_8 ?_
  refine j_isub (pc := 9) E dX5_moveOn_9 ?_
  refine JF.xletI (fun x1 => ?_)
  refine j_istore_n (pc := 10) (lv1 := [(1, .int x1), (0, .ref (xa X 75))]) E dX5_moveOn_10 rfl (by decide) rfl ?_
  refine JF.sub [1, 0] rfl ?_
  refine lX5_moveOn_L11 N _ _ E R (fun m8 => ?_) (fun m9 => ?_) N x1 σ
  · exact j_vret (pc := 47) E R dX5_moveOn_47
  · exact j_vret (pc := 64) E R dX5_moveOn_64
def fX8_countBy (N : Nat) (σ : XS) (p1 : Int32) (L2 : Nat) : Option XO := xB (fX8_syllablesOf N σ L2) (fun y1 m2 => xB (fX8_slurs N m2 p1) (fun y4 m5 => if y4 = 0 then some (y1, m5) else xB (fX8_elisionsIn N m5 L2) (fun y7 m8 => some ((y1 - y7), m8))))
set_option maxRecDepth 100000 in
set_option maxHeartbeats 4000000 in
theorem kX8_countBy {N : Nat} {σ : XS} {p1 : Int32} {L2 : Nat} {o : XO} (hL2 : xLine L2) (h : fX8_countBy N σ p1 L2 = some o) : CtI yX8_countBy cX8_countBy 4 (some .int) 2 44 (fun Am ad => [.ref (Am 1), .int p1, .ref (Am L2)]) σ o := by
  refine ct_int (by decide) (fun _ _ => Nat.le_of_ble_eq_true rfl) (fun X E R => ?_)
  rw [← h]
  show JF X o 4 0 [(0, .ref (xa X 1)), (1, .int p1), (2, .ref (xa X L2))] [] σ (xB (fX8_syllablesOf N σ L2) (fun y1 m2 => xB (fX8_slurs N m2 p1) (fun y4 m5 => if y4 = 0 then some (y1, m5) else xB (fX8_elisionsIn N m5 L2) (fun y7 m8 => some ((y1 - y7), m8)))))
  refine j_aload_n (pc := 0) rfl 0 rfl E dX8_countBy_0 ?_
  refine j_aload_n (pc := 1) rfl 2 rfl E dX8_countBy_1 ?_
  refine JF.xb (fun y1 m2 h3 => ?_)
  refine j_callVi (pc := 2) (st := []) E (kX8_syllablesOf hL2 h3) mv_X8_syllablesOf rfl s_1 q_670 [.ref (xa X L2)] rfl rfl rfl (by decide) (Nat.le_of_ble_eq_true rfl) dX8_countBy_2 ?_
  refine j_istore_n (pc := 5) (lv1 := [(3, .int y1), (0, .ref (xa X 1)), (1, .int p1), (2, .ref (xa X L2))]) E dX8_countBy_5 rfl (by decide) rfl ?_
  refine j_aload_n (pc := 6) rfl 1 rfl E dX8_countBy_6 ?_
  refine j_iload_n (pc := 7) rfl 2 rfl E dX8_countBy_7 ?_
  refine JF.xb (fun y4 m5 h6 => ?_)
  refine j_callVi (pc := 8) (st := []) E (kX8_slurs h6) mv_X8_slurs rfl s_1 q_678 [.int p1] rfl rfl rfl (by decide) (Nat.le_of_ble_eq_true rfl) dX8_countBy_8 ?_
  refine j_if_eq (pc := 11) (tgt := 24) E dX8_countBy_11 (by decide) ?_ ?_
  · refine j_iload_n (pc := 24) rfl 0 rfl E dX8_countBy_24 ?_
    exact j_iret (pc := 25) E R dX8_countBy_25
  · refine j_iload_n (pc := 14) rfl 0 rfl E dX8_countBy_14 ?_
    refine j_aload_n (pc := 15) rfl 1 rfl E dX8_countBy_15 ?_
    refine j_aload_n (pc := 16) rfl 3 rfl E dX8_countBy_16 ?_
    refine JF.xb (fun y7 m8 h9 => ?_)
    refine j_callVi (pc := 17) (st := [.int y1]) E (kX8_elisionsIn hL2 h9) mv_X8_elisionsIn rfl s_1 q_682 [.ref (xa X L2)] rfl rfl rfl (by decide) (Nat.le_of_ble_eq_true rfl) dX8_countBy_17 ?_
    refine j_isub (pc := 20) E dX8_countBy_20 ?_
    refine j_goto (pc := 21) (tgt := 25) E dX8_countBy_21 (by decide) ?_
    exact j_iret (pc := 25) E R dX8_countBy_25
def fX8_isInMetre_L4 (N : Nat) (L1 : Nat) (k25 : XS → Option XO) (k48 : XS → Option XO) : Nat → Int32 → Int32 → XS → Option XO
  | 0, _, _, _ => none
  | n + 1, v2, v3, σ => if (σ L1 1) ≤ v3 then k48 σ else xB (fX4_wordAt N σ L1 v3) (fun y1 m2 => xB (fX8_fits N m2 y1 v2) (fun y4 m5 => if y4 = 0 then k25 m5 else xB (fX4_wordAt N m5 L1 v3) (fun y7 m8 => xB (fX9_at N m8 3 y7) (fun y10 m11 => fX8_isInMetre_L4 N L1 k25 k48 n (v2 + y10) (v3 + 1) m11))))
set_option maxRecDepth 100000 in
set_option maxHeartbeats 4000000 in
theorem lX8_isInMetre_L4 (N : Nat) (L1 : Nat) (k25 : XS → Option XO) (k48 : XS → Option XO) {X : XC} {o : XO} (E : XE X cX8_isInMetre RX8 4 1 23) (R : XZ X o cX8_isInMetre .boolean) (hL1 : xLine L1) (K25 : ∀ (σ : XS), JF X o 4 25 [] [] σ (k25 σ)) (K48 : ∀ (σ : XS), JF X o 4 48 [] [] σ (k48 σ)) : ∀ (n : Nat) (v2 : Int32) (v3 : Int32) (σ : XS), JF X o 4 4 [(0, .ref (xa X 1)), (1, .ref (xa X L1)), (2, .int v2), (3, .int v3)] [] σ (fX8_isInMetre_L4 N L1 k25 k48 n v2 v3 σ) := by
  intro n
  induction n with
  | zero => intro v2 v3 σ; exact JF.none
  | succ n ih =>
    intro v2 v3 σ
    show JF X o 4 4 [(0, .ref (xa X 1)), (1, .ref (xa X L1)), (2, .int v2), (3, .int v3)] [] σ (if (σ L1 1) ≤ v3 then k48 σ else xB (fX4_wordAt N σ L1 v3) (fun y1 m2 => xB (fX8_fits N m2 y1 v2) (fun y4 m5 => if y4 = 0 then k25 m5 else xB (fX4_wordAt N m5 L1 v3) (fun y7 m8 => xB (fX9_at N m8 3 y7) (fun y10 m11 => fX8_isInMetre_L4 N L1 k25 k48 n (v2 + y10) (v3 + 1) m11)))))
    refine j_iload_n (pc := 4) rfl 3 rfl E dX8_isInMetre_4 ?_
    refine j_aload_n (pc := 5) rfl 1 rfl E dX8_isInMetre_5 ?_
    refine j_get (pc := 6) E xuX4 rfl hL1.1 (k := 1) (by decide) q_244 rfl (xflds_int rfl) dX8_isInMetre_6 ?_
    refine j_icmp_ge (pc := 9) (tgt := 48) E dX8_isInMetre_9 (by decide) ?_ ?_
    · refine JF.sub [] rfl ?_
      exact K48  σ
    · refine j_aload_n (pc := 12) rfl 0 rfl E dX8_isInMetre_12 ?_
      refine j_aload_n (pc := 13) rfl 1 rfl E dX8_isInMetre_13 ?_
      refine j_iload_n (pc := 14) rfl 3 rfl E dX8_isInMetre_14 ?_
      refine JF.xb (fun y1 m2 h3 => ?_)
      refine j_callVi (pc := 15) (st := [.ref (xa X 1)]) E (kX4_wordAt hL1 h3) mv_X4_wordAt rfl hL1.1 q_674 [.int v3] rfl rfl rfl (by decide) (Nat.le_of_ble_eq_true rfl) dX8_isInMetre_15 ?_
      refine j_iload_n (pc := 18) rfl 2 rfl E dX8_isInMetre_18 ?_
      refine JF.xb (fun y4 m5 h6 => ?_)
      refine j_callVi (pc := 19) (st := []) E (kX8_fits h6) mv_X8_fits rfl s_1 q_715 [.int y1, .int v2] rfl rfl rfl (by decide) (Nat.le_of_ble_eq_true rfl) dX8_isInMetre_19 ?_
      refine j_if_ne (pc := 22) (tgt := 27) E dX8_isInMetre_22 (by decide) ?_ ?_
      · refine JF.sub [] rfl ?_
        exact K25  m5
      · refine j_iload_n (pc := 27) rfl 2 rfl E dX8_isInMetre_27 ?_
        refine j_aload_n (pc := 28) rfl 0 rfl E dX8_isInMetre_28 ?_
        refine j_get (pc := 29) E xuX8 rfl s_1 (k := 1) (by decide) q_96 rfl (xflds_ref rfl) dX8_isInMetre_29 ?_
        refine j_aload_n (pc := 32) rfl 1 rfl E dX8_isInMetre_32 ?_
        refine j_iload_n (pc := 33) rfl 3 rfl E dX8_isInMetre_33 ?_
        refine JF.xb (fun y7 m8 h9 => ?_)
        refine j_callVi (pc := 34) (st := [.ref (xa X 3), .int v2]) E (kX4_wordAt hL1 h9) mv_X4_wordAt rfl hL1.1 q_674 [.int v3] rfl rfl rfl (by decide) (Nat.le_of_ble_eq_true rfl) dX8_isInMetre_34 ?_
        refine JF.xb (fun y10 m11 h12 => ?_)
        refine j_callSiN (pc := 37) (st := [.int v2]) E (kX9_at xr_3 h12) mv_X9_at (by decide +kernel) [.ref (xa X 3), .int y7] rfl rfl rfl (by decide) (Nat.le_of_ble_eq_true rfl) dX8_isInMetre_37 ?_
        refine j_iadd (pc := 40) E dX8_isInMetre_40 ?_
        refine j_istore_n (pc := 41) (lv1 := [(2, .int (v2 + y10)), (0, .ref (xa X 1)), (1, .ref (xa X L1)), (3, .int v3)]) E dX8_isInMetre_41 rfl (by decide) rfl ?_
        refine j_iinc (pc := 42) (v := (v3 + 1)) (lv1 := [(3, .int (v3 + 1)), (2, .int (v2 + y10)), (0, .ref (xa X 1)), (1, .ref (xa X L1))]) E dX8_isInMetre_42 3 rfl rfl (by decide) rfl ?_
        refine j_goto (pc := 45) (tgt := 4) E dX8_isInMetre_45 (by decide) ?_
        refine JF.sub [2, 3, 1, 0] rfl ?_
        exact ih (v2 + y10) (v3 + 1) m11
def fX8_isInMetre (N : Nat) (σ : XS) (L1 : Nat) : Option XO := fX8_isInMetre_L4 N L1 (fun m13 => some (0, m13)) (fun m14 => some (1, m14)) N 0 0 σ
set_option maxRecDepth 100000 in
set_option maxHeartbeats 4000000 in
theorem kX8_isInMetre {N : Nat} {σ : XS} {L1 : Nat} {o : XO} (hL1 : xLine L1) (h : fX8_isInMetre N σ L1 = some o) : CtI yX8_isInMetre cX8_isInMetre 4 (some .boolean) 1 23 (fun Am ad => [.ref (Am 1), .ref (Am L1)]) σ o := by
  refine ct_z (by decide) (fun _ _ => Nat.le_of_ble_eq_true rfl) (fun X E R => ?_)
  rw [← h]
  show JF X o 4 0 [(0, .ref (xa X 1)), (1, .ref (xa X L1))] [] σ (fX8_isInMetre_L4 N L1 (fun m13 => some (0, m13)) (fun m14 => some (1, m14)) N 0 0 σ)
  refine j_iconst (pc := 0) (v := 0) (by decide) E dX8_isInMetre_0 ?_
  refine j_istore_n (pc := 1) (lv1 := [(2, .int 0), (0, .ref (xa X 1)), (1, .ref (xa X L1))]) E dX8_isInMetre_1 rfl (by decide) rfl ?_
  refine j_iconst (pc := 2) (v := 0) (by decide) E dX8_isInMetre_2 ?_
  refine j_istore_n (pc := 3) (lv1 := [(3, .int 0), (2, .int 0), (0, .ref (xa X 1)), (1, .ref (xa X L1))]) E dX8_isInMetre_3 rfl (by decide) rfl ?_
  refine JF.sub [2, 3, 1, 0] rfl ?_
  refine lX8_isInMetre_L4 N L1 _ _ E R hL1 (fun m13 => ?_) (fun m14 => ?_) N 0 0 σ
  · refine j_iconst (pc := 25) (v := 0) (by decide) E dX8_isInMetre_25 ?_
    exact j_zret (pc := 26) E R rfl dX8_isInMetre_26
  · refine j_iconst (pc := 48) (v := 1) (by decide) E dX8_isInMetre_48 ?_
    exact j_zret (pc := 49) E R rfl dX8_isInMetre_49
def fX8_admits (N : Nat) (σ : XS) (L1 : Nat) (p2 : Int32) (p3 : Int32) : Option XO := if (σ L1 1) = 0 then some (0, σ) else xB (fX8_countBy N σ p3 L1) (fun y1 m2 => xB (fX9_at N m2 7 p2) (fun y4 m5 => if y1 = y4 then xB (fX8_isInMetre N m5 L1) (fun y7 m8 => if y7 = 0 then some (0, m8) else xB (fX8_isDeaf N m8 p3) (fun y10 m11 => if y10 = 0 then xB (fX4_lastWord N m11 L1) (fun y13 m14 => xB (fX9_at N m14 8 p2) (fun y16 m17 => xB (fX8_rhymeOfPort N m17 y16) (fun y19 m20 => xB (fX8_chimes N m20 y13 y19) (fun y22 m23 => if y22 = 0 then some (0, m23) else some (1, m23))))) else some (1, m11))) else some (0, m5)))
set_option maxRecDepth 100000 in
set_option maxHeartbeats 4000000 in
theorem kX8_admits {N : Nat} {σ : XS} {L1 : Nat} {p2 : Int32} {p3 : Int32} {o : XO} (hL1 : xLine L1) (h : fX8_admits N σ L1 p2 p3 = some o) : CtI yX8_admits cX8_admits 4 (some .boolean) 3 67 (fun Am ad => [.ref (Am 1), .ref (Am L1), .int p2, .int p3]) σ o := by
  refine ct_z (by decide) (fun _ _ => Nat.le_of_ble_eq_true rfl) (fun X E R => ?_)
  rw [← h]
  show JF X o 4 0 [(0, .ref (xa X 1)), (1, .ref (xa X L1)), (2, .int p2), (3, .int p3)] [] σ (if (σ L1 1) = 0 then some (0, σ) else xB (fX8_countBy N σ p3 L1) (fun y1 m2 => xB (fX9_at N m2 7 p2) (fun y4 m5 => if y1 = y4 then xB (fX8_isInMetre N m5 L1) (fun y7 m8 => if y7 = 0 then some (0, m8) else xB (fX8_isDeaf N m8 p3) (fun y10 m11 => if y10 = 0 then xB (fX4_lastWord N m11 L1) (fun y13 m14 => xB (fX9_at N m14 8 p2) (fun y16 m17 => xB (fX8_rhymeOfPort N m17 y16) (fun y19 m20 => xB (fX8_chimes N m20 y13 y19) (fun y22 m23 => if y22 = 0 then some (0, m23) else some (1, m23))))) else some (1, m11))) else some (0, m5))))
  refine j_aload_n (pc := 0) rfl 1 rfl E dX8_admits_0 ?_
  refine j_get (pc := 1) E xuX4 rfl hL1.1 (k := 1) (by decide) q_244 rfl (xflds_int rfl) dX8_admits_1 ?_
  refine j_if_eq (pc := 4) (tgt := 32) E dX8_admits_4 (by decide) ?_ ?_
  · refine j_iconst (pc := 32) (v := 0) (by decide) E dX8_admits_32 ?_
    exact j_zret (pc := 33) E R rfl dX8_admits_33
  · refine j_aload_n (pc := 7) rfl 0 rfl E dX8_admits_7 ?_
    refine j_iload_n (pc := 8) rfl 3 rfl E dX8_admits_8 ?_
    refine j_aload_n (pc := 9) rfl 1 rfl E dX8_admits_9 ?_
    refine JF.xb (fun y1 m2 h3 => ?_)
    refine j_callVi (pc := 10) (st := []) E (kX8_countBy hL1 h3) mv_X8_countBy rfl s_1 q_731 [.int p3, .ref (xa X L1)] rfl rfl rfl (by decide) (Nat.le_of_ble_eq_true rfl) dX8_admits_10 ?_
    refine j_aload_n (pc := 13) rfl 0 rfl E dX8_admits_13 ?_
    refine j_get (pc := 14) E xuX8 rfl s_1 (k := 5) (by decide) q_106 rfl (xflds_ref rfl) dX8_admits_14 ?_
    refine j_iload_n (pc := 17) rfl 2 rfl E dX8_admits_17 ?_
    refine JF.xb (fun y4 m5 h6 => ?_)
    refine j_callSiN (pc := 18) (st := [.int y1]) E (kX9_at xr_7 h6) mv_X9_at (by decide +kernel) [.ref (xa X 7), .int p2] rfl rfl rfl (by decide) (Nat.le_of_ble_eq_true rfl) dX8_admits_18 ?_
    refine j_icmp_ne (pc := 21) (tgt := 32) E dX8_admits_21 (by decide) ?_ ?_
    · refine j_aload_n (pc := 24) rfl 0 rfl E dX8_admits_24 ?_
      refine j_aload_n (pc := 25) rfl 1 rfl E dX8_admits_25 ?_
      refine JF.xb (fun y7 m8 h9 => ?_)
      refine j_callVi (pc := 26) (st := []) E (kX8_isInMetre hL1 h9) mv_X8_isInMetre rfl s_1 q_732 [.ref (xa X L1)] rfl rfl rfl (by decide) (Nat.le_of_ble_eq_true rfl) dX8_admits_26 ?_
      refine j_if_ne (pc := 29) (tgt := 34) E dX8_admits_29 (by decide) ?_ ?_
      · refine j_iconst (pc := 32) (v := 0) (by decide) E dX8_admits_32 ?_
        exact j_zret (pc := 33) E R rfl dX8_admits_33
      · refine j_aload_n (pc := 34) rfl 0 rfl E dX8_admits_34 ?_
        refine j_iload_n (pc := 35) rfl 3 rfl E dX8_admits_35 ?_
        refine JF.xb (fun y10 m11 h12 => ?_)
        refine j_callVi (pc := 36) (st := []) E (kX8_isDeaf h12) mv_X8_isDeaf rfl s_1 q_733 [.int p3] rfl rfl rfl (by decide) (Nat.le_of_ble_eq_true rfl) dX8_admits_36 ?_
        refine j_if_ne (pc := 39) (tgt := 65) E dX8_admits_39 (by decide) ?_ ?_
        · refine j_aload_n (pc := 42) rfl 0 rfl E dX8_admits_42 ?_
          refine j_aload_n (pc := 43) rfl 1 rfl E dX8_admits_43 ?_
          refine JF.xb (fun y13 m14 h15 => ?_)
          refine j_callVi (pc := 44) (st := [.ref (xa X 1)]) E (kX4_lastWord hL1 h15) mv_X4_lastWord rfl hL1.1 q_737 [] rfl rfl rfl (by decide) (Nat.le_of_ble_eq_true rfl) dX8_admits_44 ?_
          refine j_aload_n (pc := 47) rfl 0 rfl E dX8_admits_47 ?_
          refine j_aload_n (pc := 48) rfl 0 rfl E dX8_admits_48 ?_
          refine j_get (pc := 49) E xuX8 rfl s_1 (k := 6) (by decide) q_110 rfl (xflds_ref rfl) dX8_admits_49 ?_
          refine j_iload_n (pc := 52) rfl 2 rfl E dX8_admits_52 ?_
          refine JF.xb (fun y16 m17 h18 => ?_)
          refine j_callSiN (pc := 53) (st := [.ref (xa X 1), .int y13, .ref (xa X 1)]) E (kX9_at xr_8 h18) mv_X9_at (by decide +kernel) [.ref (xa X 8), .int p2] rfl rfl rfl (by decide) (Nat.le_of_ble_eq_true rfl) dX8_admits_53 ?_
          refine JF.xb (fun y19 m20 h21 => ?_)
          refine j_callVi (pc := 56) (st := [.int y13, .ref (xa X 1)]) E (kX8_rhymeOfPort h21) mv_X8_rhymeOfPort rfl s_1 q_742 [.int y16] rfl rfl rfl (by decide) (Nat.le_of_ble_eq_true rfl) dX8_admits_56 ?_
          refine JF.xb (fun y22 m23 h24 => ?_)
          refine j_callVi (pc := 59) (st := []) E (kX8_chimes h24) mv_X8_chimes rfl s_1 q_746 [.int y13, .int y19] rfl rfl rfl (by decide) (Nat.le_of_ble_eq_true rfl) dX8_admits_59 ?_
          refine j_if_eq (pc := 62) (tgt := 69) E dX8_admits_62 (by decide) ?_ ?_
          · refine j_iconst (pc := 69) (v := 0) (by decide) E dX8_admits_69 ?_
            exact j_zret (pc := 70) E R rfl dX8_admits_70
          · refine j_iconst (pc := 65) (v := 1) (by decide) E dX8_admits_65 ?_
            refine j_goto (pc := 66) (tgt := 70) E dX8_admits_66 (by decide) ?_
            exact j_zret (pc := 70) E R rfl dX8_admits_70
        · refine j_iconst (pc := 65) (v := 1) (by decide) E dX8_admits_65 ?_
          refine j_goto (pc := 66) (tgt := 70) E dX8_admits_66 (by decide) ?_
          exact j_zret (pc := 70) E R rfl dX8_admits_70
    · refine j_iconst (pc := 32) (v := 0) (by decide) E dX8_admits_32 ?_
      exact j_zret (pc := 33) E R rfl dX8_admits_33
def fX8_isClerk (N : Nat) (σ : XS) (p1 : Int32) : Option XO := if p1 < 0 then some (0, σ) else if (σ 1 11) ≤ p1 then some (0, σ) else some (1, σ)
set_option maxRecDepth 100000 in
set_option maxHeartbeats 4000000 in
theorem kX8_isClerk {N : Nat} {σ : XS} {p1 : Int32} {o : XO} (h : fX8_isClerk N σ p1 = some o) : CtI yX8_isClerk cX8_isClerk 2 (some .boolean) 0 0 (fun Am ad => [.ref (Am 1), .int p1]) σ o := by
  refine ct_z (by decide) (fun _ _ => Nat.le_of_ble_eq_true rfl) (fun X E R => ?_)
  rw [← h]
  show JF X o 2 0 [(0, .ref (xa X 1)), (1, .int p1)] [] σ (if p1 < 0 then some (0, σ) else if (σ 1 11) ≤ p1 then some (0, σ) else some (1, σ))
  refine j_iload_n (pc := 0) rfl 1 rfl E dX8_isClerk_0 ?_
  refine j_if_lt (pc := 1) (tgt := 16) E dX8_isClerk_1 (by decide) ?_ ?_
  · refine j_iconst (pc := 16) (v := 0) (by decide) E dX8_isClerk_16 ?_
    exact j_zret (pc := 17) E R rfl dX8_isClerk_17
  · refine j_iload_n (pc := 4) rfl 1 rfl E dX8_isClerk_4 ?_
    refine j_aload_n (pc := 5) rfl 0 rfl E dX8_isClerk_5 ?_
    refine j_get (pc := 6) E xuX8 rfl s_1 (k := 11) (by decide) q_128 rfl (xflds_int rfl) dX8_isClerk_6 ?_
    refine j_icmp_ge (pc := 9) (tgt := 16) E dX8_isClerk_9 (by decide) ?_ ?_
    · refine j_iconst (pc := 16) (v := 0) (by decide) E dX8_isClerk_16 ?_
      exact j_zret (pc := 17) E R rfl dX8_isClerk_17
    · refine j_iconst (pc := 12) (v := 1) (by decide) E dX8_isClerk_12 ?_
      refine j_goto (pc := 13) (tgt := 17) E dX8_isClerk_13 (by decide) ?_
      exact j_zret (pc := 17) E R rfl dX8_isClerk_17
def fX9_hasBit (N : Nat) (σ : XS) (p1 : Int32) (p2 : Int32) : Option XO := if ((p1 >>> (p2 &&& 31)) &&& 1) = 1 then some (1, σ) else some (0, σ)
set_option maxRecDepth 100000 in
set_option maxHeartbeats 4000000 in
theorem kX9_hasBit {N : Nat} {σ : XS} {p1 : Int32} {p2 : Int32} {o : XO} (h : fX9_hasBit N σ p1 p2 = some o) : CtI yX9_hasBit cX9_hasBit 2 (some .boolean) 0 0 (fun Am ad => [.int p1, .int p2]) σ o := by
  refine ct_z (by decide) (fun _ _ => Nat.le_of_ble_eq_true rfl) (fun X E R => ?_)
  rw [← h]
  show JF X o 2 0 [(0, .int p1), (1, .int p2)] [] σ (if ((p1 >>> (p2 &&& 31)) &&& 1) = 1 then some (1, σ) else some (0, σ))
  refine j_iload_n (pc := 0) rfl 0 rfl E dX9_hasBit_0 ?_
  refine j_iload_n (pc := 1) rfl 1 rfl E dX9_hasBit_1 ?_
  refine j_ishr (pc := 2) E dX9_hasBit_2 ?_
  refine j_iconst (pc := 3) (v := 1) (by decide) E dX9_hasBit_3 ?_
  refine j_iand (pc := 4) E dX9_hasBit_4 ?_
  refine j_iconst (pc := 5) (v := 1) (by decide) E dX9_hasBit_5 ?_
  refine j_icmp_ne (pc := 6) (tgt := 13) E dX9_hasBit_6 (by decide) ?_ ?_
  · refine j_iconst (pc := 9) (v := 1) (by decide) E dX9_hasBit_9 ?_
    refine j_goto (pc := 10) (tgt := 14) E dX9_hasBit_10 (by decide) ?_
    exact j_zret (pc := 14) E R rfl dX9_hasBit_14
  · refine j_iconst (pc := 13) (v := 0) (by decide) E dX9_hasBit_13 ?_
    exact j_zret (pc := 14) E R rfl dX9_hasBit_14
def fX5_take_L41 (N : Nat) (k91 : XS → Option XO) : Nat → Int32 → XS → Option XO
  | 0, _, _ => none
  | n + 1, v1, σ => if (σ 75 6) ≤ v1 then k91 σ else if 3 ≤ v1 then k91 σ else gd (xin v1 6) (gd (xin v1 6) (if (σ 83 v1.toNatClampNeg) = (σ 79 v1.toNatClampNeg) then fX5_take_L41 N k91 n (v1 + 1) σ else xLet (xUp σ 83 v1.toNatClampNeg (-1)) (fun m3 => gd (xin v1 6) (fX5_take_L41 N k91 n (v1 + 1) m3))))
set_option maxRecDepth 100000 in
set_option maxHeartbeats 4000000 in
theorem lX5_take_L41 (N : Nat) (k91 : XS → Option XO) {X : XC} {o : XO} (E : XE X cX5_take RX5 2 4 90) (R : XV X o cX5_take) (K91 : ∀ (σ : XS), JF X o 2 91 [(0, .ref (xa X 75))] [] σ (k91 σ)) : ∀ (n : Nat) (v1 : Int32) (σ : XS), JF X o 2 41 [(0, .ref (xa X 75)), (1, .int v1)] [] σ (fX5_take_L41 N k91 n v1 σ) := by
  intro n
  induction n with
  | zero => intro v1 σ; exact JF.none
  | succ n ih =>
    intro v1 σ
    show JF X o 2 41 [(0, .ref (xa X 75)), (1, .int v1)] [] σ (if (σ 75 6) ≤ v1 then k91 σ else if 3 ≤ v1 then k91 σ else gd (xin v1 6) (gd (xin v1 6) (if (σ 83 v1.toNatClampNeg) = (σ 79 v1.toNatClampNeg) then fX5_take_L41 N k91 n (v1 + 1) σ else xLet (xUp σ 83 v1.toNatClampNeg (-1)) (fun m3 => gd (xin v1 6) (fX5_take_L41 N k91 n (v1 + 1) m3)))))
    refine j_iload_n (pc := 41) rfl 1 rfl E dX5_take_41 ?_
    refine j_aload_n (pc := 42) rfl 0 rfl E dX5_take_42 ?_
    refine j_get (pc := 43) E xuX5 rfl s_75 (k := 6) (by decide) q_360 rfl (xflds_int rfl) dX5_take_43 ?_
    refine j_icmp_ge (pc := 46) (tgt := 91) E dX5_take_46 (by decide) ?_ ?_
    · refine JF.sub [0] rfl ?_
      exact K91  σ
    · refine j_iload_n (pc := 49) rfl 1 rfl E dX5_take_49 ?_
      refine j_iconst (pc := 50) (v := 3) (by decide) E dX5_take_50 ?_
      refine j_icmp_ge (pc := 51) (tgt := 91) E dX5_take_51 (by decide) ?_ ?_
      · refine JF.sub [0] rfl ?_
        exact K91  σ
      · refine j_aload_n (pc := 54) rfl 0 rfl E dX5_take_54 ?_
        refine j_get (pc := 55) E xuX5 rfl s_75 (k := 5) (by decide) q_358 rfl (xflds_ref rfl) dX5_take_55 ?_
        refine j_get (pc := 58) E xuX4 rfl s_82 (k := 0) (by decide) q_240 rfl (xflds_ref rfl) dX5_take_58 ?_
        refine j_iload_n (pc := 61) rfl 1 rfl E dX5_take_61 ?_
        refine j_iald (pc := 62) E s_83 dX5_take_62 ?_
        refine j_aload_n (pc := 63) rfl 0 rfl E dX5_take_63 ?_
        refine j_get (pc := 64) E xuX5 rfl s_75 (k := 3) (by decide) q_355 rfl (xflds_ref rfl) dX5_take_64 ?_
        refine j_get (pc := 67) E xuX4 rfl s_78 (k := 0) (by decide) q_240 rfl (xflds_ref rfl) dX5_take_67 ?_
        refine j_iload_n (pc := 70) rfl 1 rfl E dX5_take_70 ?_
        refine j_iald (pc := 71) E s_79 dX5_take_71 ?_
        refine j_icmp_eq (pc := 72) (tgt := 85) E dX5_take_72 (by decide) ?_ ?_
        · refine j_iinc (pc := 85) (v := (v1 + 1)) (lv1 := [(1, .int (v1 + 1)), (0, .ref (xa X 75))]) E dX5_take_85 1 rfl rfl (by decide) rfl ?_
          refine j_goto (pc := 88) (tgt := 41) E dX5_take_88 (by decide) ?_
          refine JF.sub [1, 0] rfl ?_
          exact ih (v1 + 1) σ
        · refine j_aload_n (pc := 75) rfl 0 rfl E dX5_take_75 ?_
          refine j_get (pc := 76) E xuX5 rfl s_75 (k := 5) (by decide) q_358 rfl (xflds_ref rfl) dX5_take_76 ?_
          refine j_get (pc := 79) E xuX4 rfl s_82 (k := 0) (by decide) q_240 rfl (xflds_ref rfl) dX5_take_79 ?_
          refine j_iload_n (pc := 82) rfl 1 rfl E dX5_take_82 ?_
          refine j_iconst (pc := 83) (v := (-1)) (by decide) E dX5_take_83 ?_
          refine JF.xlet (fun m3 e4 => ?_)
          refine j_iast (pc := 84) E s_83 dX5_take_84 e4 ?_
          refine j_iinc (pc := 85) (v := (v1 + 1)) (lv1 := [(1, .int (v1 + 1)), (0, .ref (xa X 75))]) E dX5_take_85 1 rfl rfl (by decide) rfl ?_
          refine j_goto (pc := 88) (tgt := 41) E dX5_take_88 (by decide) ?_
          refine JF.sub [1, 0] rfl ?_
          exact ih (v1 + 1) m3
def fX5_take_L105 (N : Nat) (k161 : XS → Option XO) : Nat → Int32 → XS → Option XO
  | 0, _, _ => none
  | n + 1, v1, σ => if (σ 1 10) ≤ v1 then k161 σ else xB (fX9_hasBit N σ (σ 75 9) v1) (fun y10 m11 => if y10 = 0 then xB (fX8_admits N m11 78 v1 0) (fun y13 m14 => if y13 = 0 then fX5_take_L105 N k161 n (v1 + 1) m14 else xLet (xUp m14 75 9 ((m14 75 9) ||| (1 <<< (v1 &&& 31)))) (fun m16 => fX5_take_L105 N k161 n (v1 + 1) m16)) else fX5_take_L105 N k161 n (v1 + 1) m11)
set_option maxRecDepth 100000 in
set_option maxHeartbeats 4000000 in
theorem lX5_take_L105 (N : Nat) (k161 : XS → Option XO) {X : XC} {o : XO} (E : XE X cX5_take RX5 2 4 90) (R : XV X o cX5_take) (K161 : ∀ (σ : XS), JF X o 2 161 [] [] σ (k161 σ)) : ∀ (n : Nat) (v1 : Int32) (σ : XS), JF X o 2 105 [(0, .ref (xa X 75)), (1, .int v1)] [] σ (fX5_take_L105 N k161 n v1 σ) := by
  intro n
  induction n with
  | zero => intro v1 σ; exact JF.none
  | succ n ih =>
    intro v1 σ
    show JF X o 2 105 [(0, .ref (xa X 75)), (1, .int v1)] [] σ (if (σ 1 10) ≤ v1 then k161 σ else xB (fX9_hasBit N σ (σ 75 9) v1) (fun y10 m11 => if y10 = 0 then xB (fX8_admits N m11 78 v1 0) (fun y13 m14 => if y13 = 0 then fX5_take_L105 N k161 n (v1 + 1) m14 else xLet (xUp m14 75 9 ((m14 75 9) ||| (1 <<< (v1 &&& 31)))) (fun m16 => fX5_take_L105 N k161 n (v1 + 1) m16)) else fX5_take_L105 N k161 n (v1 + 1) m11))
    refine j_iload_n (pc := 105) rfl 1 rfl E dX5_take_105 ?_
    refine j_aload_n (pc := 106) rfl 0 rfl E dX5_take_106 ?_
    refine j_get (pc := 107) E xuX5 rfl s_75 (k := 0) (by decide) q_352 rfl (xflds_ref rfl) dX5_take_107 ?_
    refine j_get (pc := 110) E xuX8 rfl s_1 (k := 10) (by decide) q_126 rfl (xflds_int rfl) dX5_take_110 ?_
    refine j_icmp_ge (pc := 113) (tgt := 161) E dX5_take_113 (by decide) ?_ ?_
    · refine JF.sub [] rfl ?_
      exact K161  σ
    · refine j_aload_n (pc := 116) rfl 0 rfl E dX5_take_116 ?_
      refine j_get (pc := 117) E xuX5 rfl s_75 (k := 9) (by decide) q_366 rfl (xflds_int rfl) dX5_take_117 ?_
      refine j_iload_n (pc := 120) rfl 1 rfl E dX5_take_120 ?_
      refine JF.xb (fun y10 m11 h12 => ?_)
      refine j_callSiN (pc := 121) (st := []) E (kX9_hasBit h12) mv_X9_hasBit (by decide +kernel) [.int (σ 75 9), .int v1] rfl rfl rfl (by decide) (Nat.le_of_ble_eq_true rfl) dX5_take_121 ?_
      refine j_if_ne (pc := 124) (tgt := 155) E dX5_take_124 (by decide) ?_ ?_
      · refine j_aload_n (pc := 127) rfl 0 rfl E dX5_take_127 ?_
        refine j_get (pc := 128) E xuX5 rfl s_75 (k := 0) (by decide) q_352 rfl (xflds_ref rfl) dX5_take_128 ?_
        refine j_aload_n (pc := 131) rfl 0 rfl E dX5_take_131 ?_
        refine j_get (pc := 132) E xuX5 rfl s_75 (k := 3) (by decide) q_355 rfl (xflds_ref rfl) dX5_take_132 ?_
        refine j_iload_n (pc := 135) rfl 1 rfl E dX5_take_135 ?_
        refine j_iconst (pc := 136) (v := 0) (by decide) E dX5_take_136 ?_
        refine JF.xb (fun y13 m14 h15 => ?_)
        refine j_callVi (pc := 137) (st := []) E (kX8_admits xl_78 h15) mv_X8_admits rfl s_1 q_1042 [.ref (xa X 78), .int v1, .int 0] rfl rfl rfl (by decide) (Nat.le_of_ble_eq_true rfl) dX5_take_137 ?_
        refine j_if_eq (pc := 140) (tgt := 155) E dX5_take_140 (by decide) ?_ ?_
        · refine j_iinc (pc := 155) (v := (v1 + 1)) (lv1 := [(1, .int (v1 + 1)), (0, .ref (xa X 75))]) E dX5_take_155 1 rfl rfl (by decide) rfl ?_
          refine j_goto (pc := 158) (tgt := 105) E dX5_take_158 (by decide) ?_
          refine JF.sub [1, 0] rfl ?_
          exact ih (v1 + 1) m14
        · refine j_aload_n (pc := 143) rfl 0 rfl E dX5_take_143 ?_
          refine j_dup (pc := 144) rfl E dX5_take_144 ?_
          refine j_get (pc := 145) E xuX5 rfl s_75 (k := 9) (by decide) q_366 rfl (xflds_int rfl) dX5_take_145 ?_
          refine j_iconst (pc := 148) (v := 1) (by decide) E dX5_take_148 ?_
          refine j_iload_n (pc := 149) rfl 1 rfl E dX5_take_149 ?_
          refine j_ishl (pc := 150) E dX5_take_150 ?_
          refine j_ior (pc := 151) E dX5_take_151 ?_
          refine JF.xlet (fun m16 e17 => ?_)
          refine j_put (pc := 152) E xuX5 tyX5 tyX5_ok nmX5 rfl s_75 rfl (k := 9) (by decide) q_366 rfl rfl (ty := .int) (by decide +kernel) rfl rfl dX5_take_152 e17 ?_
          refine j_iinc (pc := 155) (v := (v1 + 1)) (lv1 := [(1, .int (v1 + 1)), (0, .ref (xa X 75))]) E dX5_take_155 1 rfl rfl (by decide) rfl ?_
          refine j_goto (pc := 158) (tgt := 105) E dX5_take_158 (by decide) ?_
          refine JF.sub [1, 0] rfl ?_
          exact ih (v1 + 1) m16
      · refine j_iinc (pc := 155) (v := (v1 + 1)) (lv1 := [(1, .int (v1 + 1)), (0, .ref (xa X 75))]) E dX5_take_155 1 rfl rfl (by decide) rfl ?_
        refine j_goto (pc := 158) (tgt := 105) E dX5_take_158 (by decide) ?_
        refine JF.sub [1, 0] rfl ?_
        exact ih (v1 + 1) m11
def fX5_take_J91 (N : Nat) (σ : XS) : Option XO := xB (fX8_isClerk N σ 0) (fun y7 m8 => if y7 = 0 then some (0, m8) else fX5_take_L105 N (fun m18 => some (0, m18)) N 0 m8)
set_option maxRecDepth 100000 in
set_option maxHeartbeats 4000000 in
theorem lX5_take_J91 (N : Nat) {X : XC} {o : XO} (E : XE X cX5_take RX5 2 4 90) (R : XV X o cX5_take) (σ : XS) : JF X o 2 91 [(0, .ref (xa X 75))] [] σ (fX5_take_J91 N σ) := by
  show JF X o 2 91 [(0, .ref (xa X 75))] [] σ (xB (fX8_isClerk N σ 0) (fun y7 m8 => if y7 = 0 then some (0, m8) else fX5_take_L105 N (fun m18 => some (0, m18)) N 0 m8))
  refine j_aload_n (pc := 91) rfl 0 rfl E dX5_take_91 ?_
  refine j_get (pc := 92) E xuX5 rfl s_75 (k := 0) (by decide) q_352 rfl (xflds_ref rfl) dX5_take_92 ?_
  refine j_iconst (pc := 95) (v := 0) (by decide) E dX5_take_95 ?_
  refine JF.xb (fun y7 m8 h9 => ?_)
  refine j_callVi (pc := 96) (st := []) E (kX8_isClerk h9) mv_X8_isClerk rfl s_1 q_1040 [.int 0] rfl rfl rfl (by decide) (Nat.le_of_ble_eq_true rfl) dX5_take_96 ?_
  refine j_if_ne (pc := 99) (tgt := 103) E dX5_take_99 (by decide) ?_ ?_
  · exact j_vret (pc := 102) E R dX5_take_102
  · refine j_iconst (pc := 103) (v := 0) (by decide) E dX5_take_103 ?_
    refine j_istore_n (pc := 104) (lv1 := [(1, .int 0), (0, .ref (xa X 75))]) E dX5_take_104 rfl (by decide) rfl ?_
    refine JF.sub [1, 0] rfl ?_
    refine lX5_take_L105 N _ E R (fun m18 => ?_) N 0 m8
    · exact j_vret (pc := 161) E R dX5_take_161
def fX5_take_J29 (N : Nat) (σ : XS) : Option XO := xLet (xUp σ 75 8 ((σ 75 8) + 1)) (fun m1 => fX5_take_L41 N (fun m6 => fX5_take_J91 N m6) N 0 m1)
set_option maxRecDepth 100000 in
set_option maxHeartbeats 4000000 in
theorem lX5_take_J29 (N : Nat) {X : XC} {o : XO} (E : XE X cX5_take RX5 2 4 90) (R : XV X o cX5_take) (σ : XS) : JF X o 2 29 [(0, .ref (xa X 75))] [] σ (fX5_take_J29 N σ) := by
  show JF X o 2 29 [(0, .ref (xa X 75))] [] σ (xLet (xUp σ 75 8 ((σ 75 8) + 1)) (fun m1 => fX5_take_L41 N (fun m6 => fX5_take_J91 N m6) N 0 m1))
  refine j_aload_n (pc := 29) rfl 0 rfl E dX5_take_29 ?_
  refine j_dup (pc := 30) rfl E dX5_take_30 ?_
  refine j_get (pc := 31) E xuX5 rfl s_75 (k := 8) (by decide) q_364 rfl (xflds_int rfl) dX5_take_31 ?_
  refine j_iconst (pc := 34) (v := 1) (by decide) E dX5_take_34 ?_
  refine j_iadd (pc := 35) E dX5_take_35 ?_
  refine JF.xlet (fun m1 e2 => ?_)
  refine j_put (pc := 36) E xuX5 tyX5 tyX5_ok nmX5 rfl s_75 rfl (k := 8) (by decide) q_364 rfl rfl (ty := .int) (by decide +kernel) rfl rfl dX5_take_36 e2 ?_
  refine j_iconst (pc := 39) (v := 0) (by decide) E dX5_take_39 ?_
  refine j_istore_n (pc := 40) (lv1 := [(1, .int 0), (0, .ref (xa X 75))]) E dX5_take_40 rfl (by decide) rfl ?_
  refine JF.sub [1, 0] rfl ?_
  refine lX5_take_L41 N _ E R (fun m6 => ?_) N 0 m1
  · refine JF.sub [0] rfl ?_
    exact lX5_take_J91 N E R m6
def fX5_take (N : Nat) (σ : XS) : Option XO := if (σ 75 8) = 0 then xB (fX4_copy N σ 80 78) (fun _ m20 => xB (fX4_copy N m20 82 78) (fun _ m23 => fX5_take_J29 N m23)) else fX5_take_J29 N σ
set_option maxRecDepth 100000 in
set_option maxHeartbeats 4000000 in
theorem kX5_take {N : Nat} {σ : XS} {o : XO} (h : fX5_take N σ = some o) : CtV yX5_take cX5_take 2 none 4 90 (fun Am ad => [.ref (Am 75)]) σ o := by
  refine ct_void (by decide) (fun _ _ => Nat.le_of_ble_eq_true rfl) (fun X E R => ?_)
  rw [← h]
  show JF X o 2 0 [(0, .ref (xa X 75))] [] σ (if (σ 75 8) = 0 then xB (fX4_copy N σ 80 78) (fun _ m20 => xB (fX4_copy N m20 82 78) (fun _ m23 => fX5_take_J29 N m23)) else fX5_take_J29 N σ)
  refine j_aload_n (pc := 0) rfl 0 rfl E dX5_take_0 ?_
  refine j_get (pc := 1) E xuX5 rfl s_75 (k := 8) (by decide) q_364 rfl (xflds_int rfl) dX5_take_1 ?_
  refine j_if_ne (pc := 4) (tgt := 29) E dX5_take_4 (by decide) ?_ ?_
  · refine j_aload_n (pc := 7) rfl 0 rfl E dX5_take_7 ?_
    refine j_get (pc := 8) E xuX5 rfl s_75 (k := 4) (by decide) q_356 rfl (xflds_ref rfl) dX5_take_8 ?_
    refine j_aload_n (pc := 11) rfl 0 rfl E dX5_take_11 ?_
    refine j_get (pc := 12) E xuX5 rfl s_75 (k := 3) (by decide) q_355 rfl (xflds_ref rfl) dX5_take_12 ?_
    refine JF.xb (fun y19 m20 h21 => ?_)
    refine j_callVv (pc := 15) (st := []) E (kX4_copy xl_80 xl_78 h21) mv_X4_copy rfl s_80 q_1035 [.ref (xa X 78)] rfl rfl rfl (by decide) (Nat.le_of_ble_eq_true rfl) dX5_take_15 ?_
    refine j_aload_n (pc := 18) rfl 0 rfl E dX5_take_18 ?_
    refine j_get (pc := 19) E xuX5 rfl s_75 (k := 5) (by decide) q_358 rfl (xflds_ref rfl) dX5_take_19 ?_
    refine j_aload_n (pc := 22) rfl 0 rfl E dX5_take_22 ?_
    refine j_get (pc := 23) E xuX5 rfl s_75 (k := 3) (by decide) q_355 rfl (xflds_ref rfl) dX5_take_23 ?_
    refine JF.xb (fun y22 m23 h24 => ?_)
    refine j_callVv (pc := 26) (st := []) E (kX4_copy xl_82 xl_78 h24) mv_X4_copy rfl s_82 q_1035 [.ref (xa X 78)] rfl rfl rfl (by decide) (Nat.le_of_ble_eq_true rfl) dX5_take_26 ?_
    refine JF.sub [0] rfl ?_
    exact lX5_take_J29 N E R m23
  · refine JF.sub [0] rfl ?_
    exact lX5_take_J29 N E R σ
def fX8_linesOf_L4 (N : Nat) (v1 : Int32) (k28 : Int32 → XS → Option XO) : Nat → Int32 → Int32 → XS → Option XO
  | 0, _, _, _ => none
  | n + 1, v2, v3, σ => if v1 ≤ v3 then k28 v2 σ else if 6 ≤ v3 then k28 v2 σ else fX8_linesOf_L4 N v1 k28 n (v2 * (σ 1 9)) (v3 + 1) σ
set_option maxRecDepth 100000 in
set_option maxHeartbeats 4000000 in
theorem lX8_linesOf_L4 (N : Nat) (v1 : Int32) (k28 : Int32 → XS → Option XO) {X : XC} {o : XO} (E : XE X cX8_linesOf RX8 4 0 0) (R : XI X o cX8_linesOf) (K28 : ∀ (v2 : Int32) (σ : XS), JF X o 4 28 [(2, .int v2)] [] σ (k28 v2 σ)) : ∀ (n : Nat) (v2 : Int32) (v3 : Int32) (σ : XS), JF X o 4 4 [(0, .ref (xa X 1)), (1, .int v1), (2, .int v2), (3, .int v3)] [] σ (fX8_linesOf_L4 N v1 k28 n v2 v3 σ) := by
  intro n
  induction n with
  | zero => intro v2 v3 σ; exact JF.none
  | succ n ih =>
    intro v2 v3 σ
    show JF X o 4 4 [(0, .ref (xa X 1)), (1, .int v1), (2, .int v2), (3, .int v3)] [] σ (if v1 ≤ v3 then k28 v2 σ else if 6 ≤ v3 then k28 v2 σ else fX8_linesOf_L4 N v1 k28 n (v2 * (σ 1 9)) (v3 + 1) σ)
    refine j_iload_n (pc := 4) rfl 3 rfl E dX8_linesOf_4 ?_
    refine j_iload_n (pc := 5) rfl 1 rfl E dX8_linesOf_5 ?_
    refine j_icmp_ge (pc := 6) (tgt := 28) E dX8_linesOf_6 (by decide) ?_ ?_
    · refine JF.sub [2] rfl ?_
      exact K28 v2 σ
    · refine j_iload_n (pc := 9) rfl 3 rfl E dX8_linesOf_9 ?_
      refine j_bipush (pc := 10) (v := 6) (by decide) E dX8_linesOf_10 ?_
      refine j_icmp_ge (pc := 12) (tgt := 28) E dX8_linesOf_12 (by decide) ?_ ?_
      · refine JF.sub [2] rfl ?_
        exact K28 v2 σ
      · refine j_iload_n (pc := 15) rfl 2 rfl E dX8_linesOf_15 ?_
        refine j_aload_n (pc := 16) rfl 0 rfl E dX8_linesOf_16 ?_
        refine j_get (pc := 17) E xuX8 rfl s_1 (k := 9) (by decide) q_117 rfl (xflds_int rfl) dX8_linesOf_17 ?_
        refine j_imul (pc := 20) E dX8_linesOf_20 ?_
        refine j_istore_n (pc := 21) (lv1 := [(2, .int (v2 * (σ 1 9))), (0, .ref (xa X 1)), (1, .int v1), (3, .int v3)]) E dX8_linesOf_21 rfl (by decide) rfl ?_
        refine j_iinc (pc := 22) (v := (v3 + 1)) (lv1 := [(3, .int (v3 + 1)), (2, .int (v2 * (σ 1 9))), (0, .ref (xa X 1)), (1, .int v1)]) E dX8_linesOf_22 3 rfl rfl (by decide) rfl ?_
        refine j_goto (pc := 25) (tgt := 4) E dX8_linesOf_25 (by decide) ?_
        refine JF.sub [2, 3, 1, 0] rfl ?_
        exact ih (v2 * (σ 1 9)) (v3 + 1) σ
def fX8_linesOf (N : Nat) (σ : XS) (p1 : Int32) : Option XO := fX8_linesOf_L4 N p1 (fun x1 m2 => some (x1, m2)) N 1 0 σ
set_option maxRecDepth 100000 in
set_option maxHeartbeats 4000000 in
theorem kX8_linesOf {N : Nat} {σ : XS} {p1 : Int32} {o : XO} (h : fX8_linesOf N σ p1 = some o) : CtI yX8_linesOf cX8_linesOf 4 (some .int) 0 0 (fun Am ad => [.ref (Am 1), .int p1]) σ o := by
  refine ct_int (by decide) (fun _ _ => Nat.le_of_ble_eq_true rfl) (fun X E R => ?_)
  rw [← h]
  show JF X o 4 0 [(0, .ref (xa X 1)), (1, .int p1)] [] σ (fX8_linesOf_L4 N p1 (fun x1 m2 => some (x1, m2)) N 1 0 σ)
  refine j_iconst (pc := 0) (v := 1) (by decide) E dX8_linesOf_0 ?_
  refine j_istore_n (pc := 1) (lv1 := [(2, .int 1), (0, .ref (xa X 1)), (1, .int p1)]) E dX8_linesOf_1 rfl (by decide) rfl ?_
  refine j_iconst (pc := 2) (v := 0) (by decide) E dX8_linesOf_2 ?_
  refine j_istore_n (pc := 3) (lv1 := [(3, .int 0), (2, .int 1), (0, .ref (xa X 1)), (1, .int p1)]) E dX8_linesOf_3 rfl (by decide) rfl ?_
  refine JF.sub [2, 3, 1, 0] rfl ?_
  refine lX8_linesOf_L4 N p1 _ E R (fun x1 m2 => ?_) N 1 0 σ
  · refine j_iload_n (pc := 28) rfl 0 rfl E dX8_linesOf_28 ?_
    exact j_iret (pc := 29) E R dX8_linesOf_29
def fX5_solve_L36 (N : Nat) (k59 : XS → Option XO) : Nat → Int32 → XS → Option XO
  | 0, _, _ => none
  | n + 1, v1, σ => if (σ 75 6) ≤ v1 then k59 σ else xB (fX4_add N σ 78 0) (fun y14 m15 => fX5_solve_L36 N k59 n (v1 + 1) m15)
set_option maxRecDepth 100000 in
set_option maxHeartbeats 4000000 in
theorem lX5_solve_L36 (N : Nat) (k59 : XS → Option XO) {X : XC} {o : XO} (E : XE X cX5_solve RX5 3 5 111) (R : XV X o cX5_solve) (K59 : ∀ (σ : XS), JF X o 3 59 [(0, .ref (xa X 75))] [] σ (k59 σ)) : ∀ (n : Nat) (v1 : Int32) (σ : XS), JF X o 3 36 [(0, .ref (xa X 75)), (1, .int v1)] [] σ (fX5_solve_L36 N k59 n v1 σ) := by
  intro n
  induction n with
  | zero => intro v1 σ; exact JF.none
  | succ n ih =>
    intro v1 σ
    show JF X o 3 36 [(0, .ref (xa X 75)), (1, .int v1)] [] σ (if (σ 75 6) ≤ v1 then k59 σ else xB (fX4_add N σ 78 0) (fun y14 m15 => fX5_solve_L36 N k59 n (v1 + 1) m15))
    refine j_iload_n (pc := 36) rfl 1 rfl E dX5_solve_36 ?_
    refine j_aload_n (pc := 37) rfl 0 rfl E dX5_solve_37 ?_
    refine j_get (pc := 38) E xuX5 rfl s_75 (k := 6) (by decide) q_360 rfl (xflds_int rfl) dX5_solve_38 ?_
    refine j_icmp_ge (pc := 41) (tgt := 59) E dX5_solve_41 (by decide) ?_ ?_
    · refine JF.sub [0] rfl ?_
      exact K59  σ
    · refine j_aload_n (pc := 44) rfl 0 rfl E dX5_solve_44 ?_
      refine j_get (pc := 45) E xuX5 rfl s_75 (k := 3) (by decide) q_355 rfl (xflds_ref rfl) dX5_solve_45 ?_
      refine j_iconst (pc := 48) (v := 0) (by decide) E dX5_solve_48 ?_
      refine JF.xb (fun y14 m15 h16 => ?_)
      refine j_callVi (pc := 49) (st := []) E (kX4_add xl_78 h16) mv_X4_add rfl s_78 q_1022 [.int 0] rfl rfl rfl (by decide) (Nat.le_of_ble_eq_true rfl) dX5_solve_49 ?_
      refine j_pop (pc := 52) rfl E dX5_solve_52 ?_
      refine j_iinc (pc := 53) (v := (v1 + 1)) (lv1 := [(1, .int (v1 + 1)), (0, .ref (xa X 75))]) E dX5_solve_53 1 rfl rfl (by decide) rfl ?_
      refine j_goto (pc := 56) (tgt := 36) E dX5_solve_56 (by decide) ?_
      refine JF.sub [1, 0] rfl ?_
      exact ih (v1 + 1) m15
def fX5_solve_L73 (N : Nat) (v1 : Int32) (k99 : XS → Option XO) : Nat → Int32 → XS → Option XO
  | 0, _, _ => none
  | n + 1, v2, σ => if v1 ≤ v2 then k99 σ else xB (fX5_agrees N σ) (fun y21 m22 => if y21 = 0 then xB (fX5_moveOn N m22) (fun _ m25 => fX5_solve_L73 N v1 k99 n (v2 + 1) m25) else xB (fX5_take N m22) (fun _ m28 => xB (fX5_moveOn N m28) (fun _ m31 => fX5_solve_L73 N v1 k99 n (v2 + 1) m31)))
set_option maxRecDepth 100000 in
set_option maxHeartbeats 4000000 in
theorem lX5_solve_L73 (N : Nat) (v1 : Int32) (k99 : XS → Option XO) {X : XC} {o : XO} (E : XE X cX5_solve RX5 3 5 111) (R : XV X o cX5_solve) (K99 : ∀ (σ : XS), JF X o 3 99 [] [] σ (k99 σ)) : ∀ (n : Nat) (v2 : Int32) (σ : XS), JF X o 3 73 [(0, .ref (xa X 75)), (1, .int v1), (2, .int v2)] [] σ (fX5_solve_L73 N v1 k99 n v2 σ) := by
  intro n
  induction n with
  | zero => intro v2 σ; exact JF.none
  | succ n ih =>
    intro v2 σ
    show JF X o 3 73 [(0, .ref (xa X 75)), (1, .int v1), (2, .int v2)] [] σ (if v1 ≤ v2 then k99 σ else xB (fX5_agrees N σ) (fun y21 m22 => if y21 = 0 then xB (fX5_moveOn N m22) (fun _ m25 => fX5_solve_L73 N v1 k99 n (v2 + 1) m25) else xB (fX5_take N m22) (fun _ m28 => xB (fX5_moveOn N m28) (fun _ m31 => fX5_solve_L73 N v1 k99 n (v2 + 1) m31))))
    refine j_iload_n (pc := 73) rfl 2 rfl E dX5_solve_73 ?_
    refine j_iload_n (pc := 74) rfl 1 rfl E dX5_solve_74 ?_
    refine j_icmp_ge (pc := 75) (tgt := 99) E dX5_solve_75 (by decide) ?_ ?_
    · refine JF.sub [] rfl ?_
      exact K99  σ
    · refine j_aload_n (pc := 78) rfl 0 rfl E dX5_solve_78 ?_
      refine JF.xb (fun y21 m22 h23 => ?_)
      refine j_callVi (pc := 79) (st := []) E (kX5_agrees h23) mv_X5_agrees rfl s_75 q_1024 [] rfl rfl rfl (by decide) (Nat.le_of_ble_eq_true rfl) dX5_solve_79 ?_
      refine j_if_eq (pc := 82) (tgt := 89) E dX5_solve_82 (by decide) ?_ ?_
      · refine j_aload_n (pc := 89) rfl 0 rfl E dX5_solve_89 ?_
        refine JF.xb (fun y24 m25 h26 => ?_)
        refine j_callVv (pc := 90) (st := []) E (kX5_moveOn h26) mv_X5_moveOn rfl s_75 q_1043 [] rfl rfl rfl (by decide) (Nat.le_of_ble_eq_true rfl) dX5_solve_90 ?_
        refine j_iinc (pc := 93) (v := (v2 + 1)) (lv1 := [(2, .int (v2 + 1)), (0, .ref (xa X 75)), (1, .int v1)]) E dX5_solve_93 2 rfl rfl (by decide) rfl ?_
        refine j_goto (pc := 96) (tgt := 73) E dX5_solve_96 (by decide) ?_
        refine JF.sub [1, 2, 0] rfl ?_
        exact ih (v2 + 1) m25
      · refine j_aload_n (pc := 85) rfl 0 rfl E dX5_solve_85 ?_
        refine JF.xb (fun y27 m28 h29 => ?_)
        refine j_callVv (pc := 86) (st := []) E (kX5_take h29) mv_X5_take rfl s_75 q_1031 [] rfl rfl rfl (by decide) (Nat.le_of_ble_eq_true rfl) dX5_solve_86 ?_
        refine j_aload_n (pc := 89) rfl 0 rfl E dX5_solve_89 ?_
        refine JF.xb (fun y30 m31 h32 => ?_)
        refine j_callVv (pc := 90) (st := []) E (kX5_moveOn h32) mv_X5_moveOn rfl s_75 q_1043 [] rfl rfl rfl (by decide) (Nat.le_of_ble_eq_true rfl) dX5_solve_90 ?_
        refine j_iinc (pc := 93) (v := (v2 + 1)) (lv1 := [(2, .int (v2 + 1)), (0, .ref (xa X 75)), (1, .int v1)]) E dX5_solve_93 2 rfl rfl (by decide) rfl ?_
        refine j_goto (pc := 96) (tgt := 73) E dX5_solve_96 (by decide) ?_
        refine JF.sub [1, 2, 0] rfl ?_
        exact ih (v2 + 1) m31
def fX5_solve (N : Nat) (σ : XS) : Option XO := xLet (xUp σ 75 8 0) (fun m1 => xLet (xUp m1 75 9 0) (fun m3 => xB (fX4_clear N m3 80) (fun y5 m6 => xB (fX4_clear N m6 82) (fun y8 m9 => xB (fX4_clear N m9 78) (fun y11 m12 => fX5_solve_L36 N (fun m17 => xB (fX8_linesOf N m17 (m17 75 6)) (fun y18 m19 => fX5_solve_L73 N y18 (fun m33 => some (0, m33)) N 0 m19)) N 0 m12)))))
set_option maxRecDepth 100000 in
set_option maxHeartbeats 4000000 in
theorem kX5_solve {N : Nat} {σ : XS} {o : XO} (h : fX5_solve N σ = some o) : CtV yX5_solve cX5_solve 3 none 5 111 (fun Am ad => [.ref (Am 75)]) σ o := by
  refine ct_void (by decide) (fun _ _ => Nat.le_of_ble_eq_true rfl) (fun X E R => ?_)
  rw [← h]
  show JF X o 3 0 [(0, .ref (xa X 75))] [] σ (xLet (xUp σ 75 8 0) (fun m1 => xLet (xUp m1 75 9 0) (fun m3 => xB (fX4_clear N m3 80) (fun y5 m6 => xB (fX4_clear N m6 82) (fun y8 m9 => xB (fX4_clear N m9 78) (fun y11 m12 => fX5_solve_L36 N (fun m17 => xB (fX8_linesOf N m17 (m17 75 6)) (fun y18 m19 => fX5_solve_L73 N y18 (fun m33 => some (0, m33)) N 0 m19)) N 0 m12))))))
  refine j_aload_n (pc := 0) rfl 0 rfl E dX5_solve_0 ?_
  refine j_iconst (pc := 1) (v := 0) (by decide) E dX5_solve_1 ?_
  refine JF.xlet (fun m1 e2 => ?_)
  refine j_put (pc := 2) E xuX5 tyX5 tyX5_ok nmX5 rfl s_75 rfl (k := 8) (by decide) q_364 rfl rfl (ty := .int) (by decide +kernel) rfl rfl dX5_solve_2 e2 ?_
  refine j_aload_n (pc := 5) rfl 0 rfl E dX5_solve_5 ?_
  refine j_iconst (pc := 6) (v := 0) (by decide) E dX5_solve_6 ?_
  refine JF.xlet (fun m3 e4 => ?_)
  refine j_put (pc := 7) E xuX5 tyX5 tyX5_ok nmX5 rfl s_75 rfl (k := 9) (by decide) q_366 rfl rfl (ty := .int) (by decide +kernel) rfl rfl dX5_solve_7 e4 ?_
  refine j_aload_n (pc := 10) rfl 0 rfl E dX5_solve_10 ?_
  refine j_get (pc := 11) E xuX5 rfl s_75 (k := 4) (by decide) q_356 rfl (xflds_ref rfl) dX5_solve_11 ?_
  refine JF.xb (fun y5 m6 h7 => ?_)
  refine j_callVi (pc := 14) (st := []) E (kX4_clear xl_80 h7) mv_X4_clear rfl s_80 q_1021 [] rfl rfl rfl (by decide) (Nat.le_of_ble_eq_true rfl) dX5_solve_14 ?_
  refine j_pop (pc := 17) rfl E dX5_solve_17 ?_
  refine j_aload_n (pc := 18) rfl 0 rfl E dX5_solve_18 ?_
  refine j_get (pc := 19) E xuX5 rfl s_75 (k := 5) (by decide) q_358 rfl (xflds_ref rfl) dX5_solve_19 ?_
  refine JF.xb (fun y8 m9 h10 => ?_)
  refine j_callVi (pc := 22) (st := []) E (kX4_clear xl_82 h10) mv_X4_clear rfl s_82 q_1021 [] rfl rfl rfl (by decide) (Nat.le_of_ble_eq_true rfl) dX5_solve_22 ?_
  refine j_pop (pc := 25) rfl E dX5_solve_25 ?_
  refine j_aload_n (pc := 26) rfl 0 rfl E dX5_solve_26 ?_
  refine j_get (pc := 27) E xuX5 rfl s_75 (k := 3) (by decide) q_355 rfl (xflds_ref rfl) dX5_solve_27 ?_
  refine JF.xb (fun y11 m12 h13 => ?_)
  refine j_callVi (pc := 30) (st := []) E (kX4_clear xl_78 h13) mv_X4_clear rfl s_78 q_1021 [] rfl rfl rfl (by decide) (Nat.le_of_ble_eq_true rfl) dX5_solve_30 ?_
  refine j_pop (pc := 33) rfl E dX5_solve_33 ?_
  refine j_iconst (pc := 34) (v := 0) (by decide) E dX5_solve_34 ?_
  refine j_istore_n (pc := 35) (lv1 := [(1, .int 0), (0, .ref (xa X 75))]) E dX5_solve_35 rfl (by decide) rfl ?_
  refine JF.sub [1, 0] rfl ?_
  refine lX5_solve_L36 N _ E R (fun m17 => ?_) N 0 m12
  · refine j_aload_n (pc := 59) rfl 0 rfl E dX5_solve_59 ?_
    refine j_get (pc := 60) E xuX5 rfl s_75 (k := 0) (by decide) q_352 rfl (xflds_ref rfl) dX5_solve_60 ?_
    refine j_aload_n (pc := 63) rfl 0 rfl E dX5_solve_63 ?_
    refine j_get (pc := 64) E xuX5 rfl s_75 (k := 6) (by decide) q_360 rfl (xflds_int rfl) dX5_solve_64 ?_
    refine JF.xb (fun y18 m19 h20 => ?_)
    refine j_callVi (pc := 67) (st := []) E (kX8_linesOf h20) mv_X8_linesOf rfl s_1 q_1023 [.int (m17 75 6)] rfl rfl rfl (by decide) (Nat.le_of_ble_eq_true rfl) dX5_solve_67 ?_
    refine j_istore_n (pc := 70) (lv1 := [(1, .int y18), (0, .ref (xa X 75))]) E dX5_solve_70 rfl (by decide) rfl ?_
    refine j_iconst (pc := 71) (v := 0) (by decide) E dX5_solve_71 ?_
    refine j_istore_n (pc := 72) (lv1 := [(2, .int 0), (1, .int y18), (0, .ref (xa X 75))]) E dX5_solve_72 rfl (by decide) rfl ?_
    refine JF.sub [2, 1, 0] rfl ?_
    refine lX5_solve_L73 N y18 _ E R (fun m33 => ?_) N 0 m19
    · exact j_vret (pc := 99) E R dX5_solve_99
