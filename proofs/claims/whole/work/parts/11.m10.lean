def fX10_prose (N : Nat) (σ : XS) (p1 : Int32) : Option XO := xB (fX10_isWare N σ p1) (fun y1 m2 => if y1 = 0 then some ((-2), m2) else gd (xin ((46 + (3 * p1)) + 2) 98) (if (m2 86 ((46 + (3 * p1)) + 2).toNatClampNeg) = 0 then gd (xin 4 98) (if (m2 86 (4 : Int32).toNatClampNeg) = 99 then some ((-5), m2) else xB (fX10_remembers N m2) (fun _ m5 => gd (xin (46 + (3 * p1)) 98) (xB (fX10_pays N m5 p1 3 (3 * (m5 86 (46 + (3 * p1)).toNatClampNeg))) (fun y7 m8 => some (y7, m8))))) else some ((-4), m2)))
set_option maxRecDepth 100000 in
set_option maxHeartbeats 4000000 in
theorem kX10_prose {N : Nat} {σ : XS} {p1 : Int32} {o : XO} (h : fX10_prose N σ p1 = some o) : CtI yX10_prose cX10_prose 2 (some .int) 2 46 (fun Am ad => [.ref (Am 85), .int p1]) σ o := by
  refine ct_int (by decide) (fun _ _ => Nat.le_of_ble_eq_true rfl) (fun X E R => ?_)
  rw [← h]
  show JF X o 2 0 [(0, .ref (xa X 85)), (1, .int p1)] [] σ (xB (fX10_isWare N σ p1) (fun y1 m2 => if y1 = 0 then some ((-2), m2) else gd (xin ((46 + (3 * p1)) + 2) 98) (if (m2 86 ((46 + (3 * p1)) + 2).toNatClampNeg) = 0 then gd (xin 4 98) (if (m2 86 (4 : Int32).toNatClampNeg) = 99 then some ((-5), m2) else xB (fX10_remembers N m2) (fun _ m5 => gd (xin (46 + (3 * p1)) 98) (xB (fX10_pays N m5 p1 3 (3 * (m5 86 (46 + (3 * p1)).toNatClampNeg))) (fun y7 m8 => some (y7, m8))))) else some ((-4), m2))))
  refine j_aload_n (pc := 0) rfl 0 rfl E dX10_prose_0 ?_
  refine j_iload_n (pc := 1) rfl 1 rfl E dX10_prose_1 ?_
  refine JF.xb (fun y1 m2 h3 => ?_)
  refine j_callVi (pc := 2) (st := []) E (kX10_isWare h3) mv_X10_isWare rfl s_85 q_1242 [.int p1] rfl rfl rfl (by decide) (Nat.le_of_ble_eq_true rfl) dX10_prose_2 ?_
  refine j_if_ne (pc := 5) (tgt := 11) E dX10_prose_5 (by decide) ?_ ?_
  · refine j_bipush (pc := 8) (v := (-2)) (by decide) E dX10_prose_8 ?_
    exact j_iret (pc := 10) E R dX10_prose_10
  · refine j_aload_n (pc := 11) rfl 0 rfl E dX10_prose_11 ?_
    refine j_get (pc := 12) E xuX10 rfl s_85 (k := 0) (by decide) q_1082 rfl (xflds_ref rfl) dX10_prose_12 ?_
    refine j_bipush (pc := 15) (v := 46) (by decide) E dX10_prose_15 ?_
    refine j_iconst (pc := 17) (v := 3) (by decide) E dX10_prose_17 ?_
    refine j_iload_n (pc := 18) rfl 1 rfl E dX10_prose_18 ?_
    refine j_imul (pc := 19) E dX10_prose_19 ?_
    refine j_iadd (pc := 20) E dX10_prose_20 ?_
    refine j_iconst (pc := 21) (v := 2) (by decide) E dX10_prose_21 ?_
    refine j_iadd (pc := 22) E dX10_prose_22 ?_
    refine j_iald (pc := 23) E s_86 dX10_prose_23 ?_
    refine j_if_eq (pc := 24) (tgt := 30) E dX10_prose_24 (by decide) ?_ ?_
    · refine j_aload_n (pc := 30) rfl 0 rfl E dX10_prose_30 ?_
      refine j_get (pc := 31) E xuX10 rfl s_85 (k := 0) (by decide) q_1082 rfl (xflds_ref rfl) dX10_prose_31 ?_
      refine j_iconst (pc := 34) (v := 4) (by decide) E dX10_prose_34 ?_
      refine j_iald (pc := 35) E s_86 dX10_prose_35 ?_
      refine j_bipush (pc := 36) (v := 99) (by decide) E dX10_prose_36 ?_
      refine j_icmp_ne (pc := 38) (tgt := 44) E dX10_prose_38 (by decide) ?_ ?_
      · refine j_bipush (pc := 41) (v := (-5)) (by decide) E dX10_prose_41 ?_
        exact j_iret (pc := 43) E R dX10_prose_43
      · refine j_aload_n (pc := 44) rfl 0 rfl E dX10_prose_44 ?_
        refine JF.xb (fun y4 m5 h6 => ?_)
        refine j_callVv (pc := 45) (st := []) E (kX10_remembers h6) mv_X10_remembers rfl s_85 q_1333 [] rfl rfl rfl (by decide) (Nat.le_of_ble_eq_true rfl) dX10_prose_45 ?_
        refine j_aload_n (pc := 48) rfl 0 rfl E dX10_prose_48 ?_
        refine j_iload_n (pc := 49) rfl 1 rfl E dX10_prose_49 ?_
        refine j_iconst (pc := 50) (v := 3) (by decide) E dX10_prose_50 ?_
        refine j_iconst (pc := 51) (v := 3) (by decide) E dX10_prose_51 ?_
        refine j_aload_n (pc := 52) rfl 0 rfl E dX10_prose_52 ?_
        refine j_get (pc := 53) E xuX10 rfl s_85 (k := 0) (by decide) q_1082 rfl (xflds_ref rfl) dX10_prose_53 ?_
        refine j_bipush (pc := 56) (v := 46) (by decide) E dX10_prose_56 ?_
        refine j_iconst (pc := 58) (v := 3) (by decide) E dX10_prose_58 ?_
        refine j_iload_n (pc := 59) rfl 1 rfl E dX10_prose_59 ?_
        refine j_imul (pc := 60) E dX10_prose_60 ?_
        refine j_iadd (pc := 61) E dX10_prose_61 ?_
        refine j_iald (pc := 62) E s_86 dX10_prose_62 ?_
        refine j_imul (pc := 63) E dX10_prose_63 ?_
        refine JF.xb (fun y7 m8 h9 => ?_)
        refine j_callVi (pc := 64) (st := []) E (kX10_pays h9) mv_X10_pays rfl s_85 q_1341 [.int p1, .int 3, .int (3 * (m5 86 (46 + (3 * p1)).toNatClampNeg))] rfl rfl rfl (by decide) (Nat.le_of_ble_eq_true rfl) dX10_prose_64 ?_
        exact j_iret (pc := 67) E R dX10_prose_67
    · refine j_bipush (pc := 27) (v := (-4)) (by decide) E dX10_prose_27 ?_
      exact j_iret (pc := 29) E R dX10_prose_29
def fX10_day (N : Nat) (σ : XS) : Option XO := gd (xin 4 98) (if (σ 86 (4 : Int32).toNatClampNeg) = 99 then some ((-5), σ) else xB (fX10_remembers N σ) (fun _ m2 => gd (xin 4 98) (xLet (xUp m2 86 (4 : Int32).toNatClampNeg ((m2 86 (4 : Int32).toNatClampNeg) + 1)) (fun m4 => gd (xin 4 98) (gd (xin 4 98) (some ((m4 86 (4 : Int32).toNatClampNeg), m4)))))))
set_option maxRecDepth 100000 in
set_option maxHeartbeats 4000000 in
theorem kX10_day {N : Nat} {σ : XS} {o : XO} (h : fX10_day N σ = some o) : CtI yX10_day cX10_day 1 (some .int) 1 21 (fun Am ad => [.ref (Am 85)]) σ o := by
  refine ct_int (by decide) (fun _ _ => Nat.le_of_ble_eq_true rfl) (fun X E R => ?_)
  rw [← h]
  show JF X o 1 0 [(0, .ref (xa X 85))] [] σ (gd (xin 4 98) (if (σ 86 (4 : Int32).toNatClampNeg) = 99 then some ((-5), σ) else xB (fX10_remembers N σ) (fun _ m2 => gd (xin 4 98) (xLet (xUp m2 86 (4 : Int32).toNatClampNeg ((m2 86 (4 : Int32).toNatClampNeg) + 1)) (fun m4 => gd (xin 4 98) (gd (xin 4 98) (some ((m4 86 (4 : Int32).toNatClampNeg), m4))))))))
  refine j_aload_n (pc := 0) rfl 0 rfl E dX10_day_0 ?_
  refine j_get (pc := 1) E xuX10 rfl s_85 (k := 0) (by decide) q_1082 rfl (xflds_ref rfl) dX10_day_1 ?_
  refine j_iconst (pc := 4) (v := 4) (by decide) E dX10_day_4 ?_
  refine j_iald (pc := 5) E s_86 dX10_day_5 ?_
  refine j_bipush (pc := 6) (v := 99) (by decide) E dX10_day_6 ?_
  refine j_icmp_ne (pc := 8) (tgt := 14) E dX10_day_8 (by decide) ?_ ?_
  · refine j_bipush (pc := 11) (v := (-5)) (by decide) E dX10_day_11 ?_
    exact j_iret (pc := 13) E R dX10_day_13
  · refine j_aload_n (pc := 14) rfl 0 rfl E dX10_day_14 ?_
    refine JF.xb (fun y1 m2 h3 => ?_)
    refine j_callVv (pc := 15) (st := []) E (kX10_remembers h3) mv_X10_remembers rfl s_85 q_1333 [] rfl rfl rfl (by decide) (Nat.le_of_ble_eq_true rfl) dX10_day_15 ?_
    refine j_aload_n (pc := 18) rfl 0 rfl E dX10_day_18 ?_
    refine j_get (pc := 19) E xuX10 rfl s_85 (k := 0) (by decide) q_1082 rfl (xflds_ref rfl) dX10_day_19 ?_
    refine j_iconst (pc := 22) (v := 4) (by decide) E dX10_day_22 ?_
    refine j_dup2 (pc := 23) rfl rfl E dX10_day_23 ?_
    refine j_iald (pc := 24) E s_86 dX10_day_24 ?_
    refine j_iconst (pc := 25) (v := 1) (by decide) E dX10_day_25 ?_
    refine j_iadd (pc := 26) E dX10_day_26 ?_
    refine JF.xlet (fun m4 e5 => ?_)
    refine j_iast (pc := 27) E s_86 dX10_day_27 e5 ?_
    refine j_aload_n (pc := 28) rfl 0 rfl E dX10_day_28 ?_
    refine j_get (pc := 29) E xuX10 rfl s_85 (k := 0) (by decide) q_1082 rfl (xflds_ref rfl) dX10_day_29 ?_
    refine j_iconst (pc := 32) (v := 4) (by decide) E dX10_day_32 ?_
    refine j_iald (pc := 33) E s_86 dX10_day_33 ?_
    exact j_iret (pc := 34) E R dX10_day_34
def fX10_undo_L22 (N : Nat) (k54 : XS → Option XO) : Nat → Int32 → XS → Option XO
  | 0, _, _ => none
  | n + 1, v1, σ => if 98 ≤ v1 then k54 σ else gd (xin ((98 * (σ 85 2)) + v1) 784) (xLet (xUp σ 86 v1.toNatClampNeg (σ 87 ((98 * (σ 85 2)) + v1).toNatClampNeg)) (fun m3 => gd (xin v1 98) (fX10_undo_L22 N k54 n (v1 + 1) m3)))
set_option maxRecDepth 100000 in
set_option maxHeartbeats 4000000 in
theorem lX10_undo_L22 (N : Nat) (k54 : XS → Option XO) {X : XC} {o : XO} (E : XE X cX10_undo RX10 2 0 0) (R : XI X o cX10_undo) (K54 : ∀ (σ : XS), JF X o 2 54 [(0, .ref (xa X 85))] [] σ (k54 σ)) : ∀ (n : Nat) (v1 : Int32) (σ : XS), JF X o 2 22 [(0, .ref (xa X 85)), (1, .int v1)] [] σ (fX10_undo_L22 N k54 n v1 σ) := by
  intro n
  induction n with
  | zero => intro v1 σ; exact JF.none
  | succ n ih =>
    intro v1 σ
    show JF X o 2 22 [(0, .ref (xa X 85)), (1, .int v1)] [] σ (if 98 ≤ v1 then k54 σ else gd (xin ((98 * (σ 85 2)) + v1) 784) (xLet (xUp σ 86 v1.toNatClampNeg (σ 87 ((98 * (σ 85 2)) + v1).toNatClampNeg)) (fun m3 => gd (xin v1 98) (fX10_undo_L22 N k54 n (v1 + 1) m3))))
    refine j_iload_n (pc := 22) rfl 1 rfl E dX10_undo_22 ?_
    refine j_bipush (pc := 23) (v := 98) (by decide) E dX10_undo_23 ?_
    refine j_icmp_ge (pc := 25) (tgt := 54) E dX10_undo_25 (by decide) ?_ ?_
    · refine JF.sub [0] rfl ?_
      exact K54  σ
    · refine j_aload_n (pc := 28) rfl 0 rfl E dX10_undo_28 ?_
      refine j_get (pc := 29) E xuX10 rfl s_85 (k := 0) (by decide) q_1082 rfl (xflds_ref rfl) dX10_undo_29 ?_
      refine j_iload_n (pc := 32) rfl 1 rfl E dX10_undo_32 ?_
      refine j_aload_n (pc := 33) rfl 0 rfl E dX10_undo_33 ?_
      refine j_get (pc := 34) E xuX10 rfl s_85 (k := 1) (by decide) q_1083 rfl (xflds_ref rfl) dX10_undo_34 ?_
      refine j_bipush (pc := 37) (v := 98) (by decide) E dX10_undo_37 ?_
      refine j_aload_n (pc := 39) rfl 0 rfl E dX10_undo_39 ?_
      refine j_get (pc := 40) E xuX10 rfl s_85 (k := 2) (by decide) q_1084 rfl (xflds_int rfl) dX10_undo_40 ?_
      refine j_imul (pc := 43) E dX10_undo_43 ?_
      refine j_iload_n (pc := 44) rfl 1 rfl E dX10_undo_44 ?_
      refine j_iadd (pc := 45) E dX10_undo_45 ?_
      refine j_iald (pc := 46) E s_87 dX10_undo_46 ?_
      refine JF.xlet (fun m3 e4 => ?_)
      refine j_iast (pc := 47) E s_86 dX10_undo_47 e4 ?_
      refine j_iinc (pc := 48) (v := (v1 + 1)) (lv1 := [(1, .int (v1 + 1)), (0, .ref (xa X 85))]) E dX10_undo_48 1 rfl rfl (by decide) rfl ?_
      refine j_goto (pc := 51) (tgt := 22) E dX10_undo_51 (by decide) ?_
      refine JF.sub [1, 0] rfl ?_
      exact ih (v1 + 1) m3
def fX10_undo (N : Nat) (σ : XS) : Option XO := if (σ 85 2) = 0 then some ((-4), σ) else xLet (xUp σ 85 2 ((σ 85 2) - 1)) (fun m1 => fX10_undo_L22 N (fun m6 => some ((m6 85 2), m6)) N 0 m1)
set_option maxRecDepth 100000 in
set_option maxHeartbeats 4000000 in
theorem kX10_undo {N : Nat} {σ : XS} {o : XO} (h : fX10_undo N σ = some o) : CtI yX10_undo cX10_undo 2 (some .int) 0 0 (fun Am ad => [.ref (Am 85)]) σ o := by
  refine ct_int (by decide) (fun _ _ => Nat.le_of_ble_eq_true rfl) (fun X E R => ?_)
  rw [← h]
  show JF X o 2 0 [(0, .ref (xa X 85))] [] σ (if (σ 85 2) = 0 then some ((-4), σ) else xLet (xUp σ 85 2 ((σ 85 2) - 1)) (fun m1 => fX10_undo_L22 N (fun m6 => some ((m6 85 2), m6)) N 0 m1))
  refine j_aload_n (pc := 0) rfl 0 rfl E dX10_undo_0 ?_
  refine j_get (pc := 1) E xuX10 rfl s_85 (k := 2) (by decide) q_1084 rfl (xflds_int rfl) dX10_undo_1 ?_
  refine j_if_ne (pc := 4) (tgt := 10) E dX10_undo_4 (by decide) ?_ ?_
  · refine j_bipush (pc := 7) (v := (-4)) (by decide) E dX10_undo_7 ?_
    exact j_iret (pc := 9) E R dX10_undo_9
  · refine j_aload_n (pc := 10) rfl 0 rfl E dX10_undo_10 ?_
    refine j_dup (pc := 11) rfl E dX10_undo_11 ?_
    refine j_get (pc := 12) E xuX10 rfl s_85 (k := 2) (by decide) q_1084 rfl (xflds_int rfl) dX10_undo_12 ?_
    refine j_iconst (pc := 15) (v := 1) (by decide) E dX10_undo_15 ?_
    refine j_isub (pc := 16) E dX10_undo_16 ?_
    refine JF.xlet (fun m1 e2 => ?_)
    refine j_put (pc := 17) E xuX10 tyX10 tyX10_ok nmX10 rfl s_85 rfl (k := 2) (by decide) q_1084 rfl rfl (ty := .int) (by decide +kernel) rfl rfl dX10_undo_17 e2 ?_
    refine j_iconst (pc := 20) (v := 0) (by decide) E dX10_undo_20 ?_
    refine j_istore_n (pc := 21) (lv1 := [(1, .int 0), (0, .ref (xa X 85))]) E dX10_undo_21 rfl (by decide) rfl ?_
    refine JF.sub [1, 0] rfl ?_
    refine lX10_undo_L22 N _ E R (fun m6 => ?_) N 0 m1
    · refine j_aload_n (pc := 54) rfl 0 rfl E dX10_undo_54 ?_
      refine j_get (pc := 55) E xuX10 rfl s_85 (k := 2) (by decide) q_1084 rfl (xflds_int rfl) dX10_undo_55 ?_
      exact j_iret (pc := 58) E R dX10_undo_58
def fX10_keep_L15 (N : Nat) (v1 : Int32) (k44 : XS → Option XO) : Nat → Int32 → XS → Option XO
  | 0, _, _ => none
  | n + 1, v2, σ => if 98 ≤ v2 then k44 σ else gd (xin v2 98) (xLet (xUp σ 88 ((98 * v1) + v2).toNatClampNeg (σ 86 v2.toNatClampNeg)) (fun m4 => gd (xin ((98 * v1) + v2) 196) (fX10_keep_L15 N v1 k44 n (v2 + 1) m4)))
set_option maxRecDepth 100000 in
set_option maxHeartbeats 4000000 in
theorem lX10_keep_L15 (N : Nat) (v1 : Int32) (k44 : XS → Option XO) {X : XC} {o : XO} (E : XE X cX10_keep RX10 3 1 25) (R : XI X o cX10_keep) (K44 : ∀ (σ : XS), JF X o 3 44 [(0, .ref (xa X 85)), (1, .int v1)] [] σ (k44 σ)) : ∀ (n : Nat) (v2 : Int32) (σ : XS), JF X o 3 15 [(0, .ref (xa X 85)), (1, .int v1), (2, .int v2)] [] σ (fX10_keep_L15 N v1 k44 n v2 σ) := by
  intro n
  induction n with
  | zero => intro v2 σ; exact JF.none
  | succ n ih =>
    intro v2 σ
    show JF X o 3 15 [(0, .ref (xa X 85)), (1, .int v1), (2, .int v2)] [] σ (if 98 ≤ v2 then k44 σ else gd (xin v2 98) (xLet (xUp σ 88 ((98 * v1) + v2).toNatClampNeg (σ 86 v2.toNatClampNeg)) (fun m4 => gd (xin ((98 * v1) + v2) 196) (fX10_keep_L15 N v1 k44 n (v2 + 1) m4))))
    refine j_iload_n (pc := 15) rfl 2 rfl E dX10_keep_15 ?_
    refine j_bipush (pc := 16) (v := 98) (by decide) E dX10_keep_16 ?_
    refine j_icmp_ge (pc := 18) (tgt := 44) E dX10_keep_18 (by decide) ?_ ?_
    · refine JF.sub [0, 1] rfl ?_
      exact K44  σ
    · refine j_aload_n (pc := 21) rfl 0 rfl E dX10_keep_21 ?_
      refine j_get (pc := 22) E xuX10 rfl s_85 (k := 3) (by decide) q_1085 rfl (xflds_ref rfl) dX10_keep_22 ?_
      refine j_bipush (pc := 25) (v := 98) (by decide) E dX10_keep_25 ?_
      refine j_iload_n (pc := 27) rfl 1 rfl E dX10_keep_27 ?_
      refine j_imul (pc := 28) E dX10_keep_28 ?_
      refine j_iload_n (pc := 29) rfl 2 rfl E dX10_keep_29 ?_
      refine j_iadd (pc := 30) E dX10_keep_30 ?_
      refine j_aload_n (pc := 31) rfl 0 rfl E dX10_keep_31 ?_
      refine j_get (pc := 32) E xuX10 rfl s_85 (k := 0) (by decide) q_1082 rfl (xflds_ref rfl) dX10_keep_32 ?_
      refine j_iload_n (pc := 35) rfl 2 rfl E dX10_keep_35 ?_
      refine j_iald (pc := 36) E s_86 dX10_keep_36 ?_
      refine JF.xlet (fun m4 e5 => ?_)
      refine j_iast (pc := 37) E s_88 dX10_keep_37 e5 ?_
      refine j_iinc (pc := 38) (v := (v2 + 1)) (lv1 := [(2, .int (v2 + 1)), (0, .ref (xa X 85)), (1, .int v1)]) E dX10_keep_38 2 rfl rfl (by decide) rfl ?_
      refine j_goto (pc := 41) (tgt := 15) E dX10_keep_41 (by decide) ?_
      refine JF.sub [1, 2, 0] rfl ?_
      exact ih (v2 + 1) m4
def fX10_keep (N : Nat) (σ : XS) (p1 : Int32) : Option XO := xB (fX10_in N σ p1.toInt64 0 1) (fun y1 m2 => if y1 = 0 then some ((-2), m2) else fX10_keep_L15 N p1 (fun m7 => xLet (xUp m7 89 p1.toNatClampNeg (vp_nar .boolean 1)) (fun m8 => gd (xin p1 2) (gd (xin 4 98) (some ((m8 86 (4 : Int32).toNatClampNeg), m8))))) N 0 m2)
set_option maxRecDepth 100000 in
set_option maxHeartbeats 4000000 in
theorem kX10_keep {N : Nat} {σ : XS} {p1 : Int32} {o : XO} (h : fX10_keep N σ p1 = some o) : CtI yX10_keep cX10_keep 3 (some .int) 1 25 (fun Am ad => [.ref (Am 85), .int p1]) σ o := by
  refine ct_int (by decide) (fun _ _ => Nat.le_of_ble_eq_true rfl) (fun X E R => ?_)
  rw [← h]
  show JF X o 3 0 [(0, .ref (xa X 85)), (1, .int p1)] [] σ (xB (fX10_in N σ p1.toInt64 0 1) (fun y1 m2 => if y1 = 0 then some ((-2), m2) else fX10_keep_L15 N p1 (fun m7 => xLet (xUp m7 89 p1.toNatClampNeg (vp_nar .boolean 1)) (fun m8 => gd (xin p1 2) (gd (xin 4 98) (some ((m8 86 (4 : Int32).toNatClampNeg), m8))))) N 0 m2))
  refine j_iload_n (pc := 0) rfl 1 rfl E dX10_keep_0 ?_
  refine j_i2l (pc := 1) E dX10_keep_1 ?_
  refine j_lconst (pc := 2) (v := 0) (by decide) E dX10_keep_2 ?_
  refine j_lconst (pc := 3) (v := 1) (by decide) E dX10_keep_3 ?_
  refine JF.xb (fun y1 m2 h3 => ?_)
  refine j_callSi (pc := 4) (st := []) E (kX10_in h3) mv_X10_in q_1079 [.long p1.toInt64, .long 0, .long 1] rfl rfl rfl (by decide) (Nat.le_of_ble_eq_true rfl) dX10_keep_4 ?_
  refine j_if_ne (pc := 7) (tgt := 13) E dX10_keep_7 (by decide) ?_ ?_
  · refine j_bipush (pc := 10) (v := (-2)) (by decide) E dX10_keep_10 ?_
    exact j_iret (pc := 12) E R dX10_keep_12
  · refine j_iconst (pc := 13) (v := 0) (by decide) E dX10_keep_13 ?_
    refine j_istore_n (pc := 14) (lv1 := [(2, .int 0), (0, .ref (xa X 85)), (1, .int p1)]) E dX10_keep_14 rfl (by decide) rfl ?_
    refine JF.sub [1, 2, 0] rfl ?_
    refine lX10_keep_L15 N p1 _ E R (fun m7 => ?_) N 0 m2
    · refine j_aload_n (pc := 44) rfl 0 rfl E dX10_keep_44 ?_
      refine j_get (pc := 45) E xuX10 rfl s_85 (k := 4) (by decide) q_1086 rfl (xflds_ref rfl) dX10_keep_45 ?_
      refine j_iload_n (pc := 48) rfl 1 rfl E dX10_keep_48 ?_
      refine j_iconst (pc := 49) (v := 1) (by decide) E dX10_keep_49 ?_
      refine JF.xlet (fun m8 e9 => ?_)
      refine j_zast (pc := 50) E s_89 dX10_keep_50 e9 ?_
      refine j_aload_n (pc := 51) rfl 0 rfl E dX10_keep_51 ?_
      refine j_get (pc := 52) E xuX10 rfl s_85 (k := 0) (by decide) q_1082 rfl (xflds_ref rfl) dX10_keep_52 ?_
      refine j_iconst (pc := 55) (v := 4) (by decide) E dX10_keep_55 ?_
      refine j_iald (pc := 56) E s_86 dX10_keep_56 ?_
      exact j_iret (pc := 57) E R dX10_keep_57
def fX10_back_L27 (N : Nat) (v1 : Int32) (k56 : XS → Option XO) : Nat → Int32 → XS → Option XO
  | 0, _, _ => none
  | n + 1, v2, σ => if 98 ≤ v2 then k56 σ else gd (xin ((98 * v1) + v2) 196) (xLet (xUp σ 86 v2.toNatClampNeg (σ 88 ((98 * v1) + v2).toNatClampNeg)) (fun m4 => gd (xin v2 98) (fX10_back_L27 N v1 k56 n (v2 + 1) m4)))
set_option maxRecDepth 100000 in
set_option maxHeartbeats 4000000 in
theorem lX10_back_L27 (N : Nat) (v1 : Int32) (k56 : XS → Option XO) {X : XC} {o : XO} (E : XE X cX10_back RX10 3 1 25) (R : XI X o cX10_back) (K56 : ∀ (σ : XS), JF X o 3 56 [(0, .ref (xa X 85))] [] σ (k56 σ)) : ∀ (n : Nat) (v2 : Int32) (σ : XS), JF X o 3 27 [(0, .ref (xa X 85)), (1, .int v1), (2, .int v2)] [] σ (fX10_back_L27 N v1 k56 n v2 σ) := by
  intro n
  induction n with
  | zero => intro v2 σ; exact JF.none
  | succ n ih =>
    intro v2 σ
    show JF X o 3 27 [(0, .ref (xa X 85)), (1, .int v1), (2, .int v2)] [] σ (if 98 ≤ v2 then k56 σ else gd (xin ((98 * v1) + v2) 196) (xLet (xUp σ 86 v2.toNatClampNeg (σ 88 ((98 * v1) + v2).toNatClampNeg)) (fun m4 => gd (xin v2 98) (fX10_back_L27 N v1 k56 n (v2 + 1) m4))))
    refine j_iload_n (pc := 27) rfl 2 rfl E dX10_back_27 ?_
    refine j_bipush (pc := 28) (v := 98) (by decide) E dX10_back_28 ?_
    refine j_icmp_ge (pc := 30) (tgt := 56) E dX10_back_30 (by decide) ?_ ?_
    · refine JF.sub [0] rfl ?_
      exact K56  σ
    · refine j_aload_n (pc := 33) rfl 0 rfl E dX10_back_33 ?_
      refine j_get (pc := 34) E xuX10 rfl s_85 (k := 0) (by decide) q_1082 rfl (xflds_ref rfl) dX10_back_34 ?_
      refine j_iload_n (pc := 37) rfl 2 rfl E dX10_back_37 ?_
      refine j_aload_n (pc := 38) rfl 0 rfl E dX10_back_38 ?_
      refine j_get (pc := 39) E xuX10 rfl s_85 (k := 3) (by decide) q_1085 rfl (xflds_ref rfl) dX10_back_39 ?_
      refine j_bipush (pc := 42) (v := 98) (by decide) E dX10_back_42 ?_
      refine j_iload_n (pc := 44) rfl 1 rfl E dX10_back_44 ?_
      refine j_imul (pc := 45) E dX10_back_45 ?_
      refine j_iload_n (pc := 46) rfl 2 rfl E dX10_back_46 ?_
      refine j_iadd (pc := 47) E dX10_back_47 ?_
      refine j_iald (pc := 48) E s_88 dX10_back_48 ?_
      refine JF.xlet (fun m4 e5 => ?_)
      refine j_iast (pc := 49) E s_86 dX10_back_49 e5 ?_
      refine j_iinc (pc := 50) (v := (v2 + 1)) (lv1 := [(2, .int (v2 + 1)), (0, .ref (xa X 85)), (1, .int v1)]) E dX10_back_50 2 rfl rfl (by decide) rfl ?_
      refine j_goto (pc := 53) (tgt := 27) E dX10_back_53 (by decide) ?_
      refine JF.sub [1, 2, 0] rfl ?_
      exact ih (v2 + 1) m4
def fX10_back (N : Nat) (σ : XS) (p1 : Int32) : Option XO := xB (fX10_in N σ p1.toInt64 0 1) (fun y1 m2 => if y1 = 0 then some ((-2), m2) else gd (xin p1 2) (if (m2 89 p1.toNatClampNeg) = 0 then some ((-4), m2) else fX10_back_L27 N p1 (fun m7 => xLet (xUp m7 85 2 0) (fun m8 => gd (xin 4 98) (some ((m8 86 (4 : Int32).toNatClampNeg), m8)))) N 0 m2))
set_option maxRecDepth 100000 in
set_option maxHeartbeats 4000000 in
theorem kX10_back {N : Nat} {σ : XS} {p1 : Int32} {o : XO} (h : fX10_back N σ p1 = some o) : CtI yX10_back cX10_back 3 (some .int) 1 25 (fun Am ad => [.ref (Am 85), .int p1]) σ o := by
  refine ct_int (by decide) (fun _ _ => Nat.le_of_ble_eq_true rfl) (fun X E R => ?_)
  rw [← h]
  show JF X o 3 0 [(0, .ref (xa X 85)), (1, .int p1)] [] σ (xB (fX10_in N σ p1.toInt64 0 1) (fun y1 m2 => if y1 = 0 then some ((-2), m2) else gd (xin p1 2) (if (m2 89 p1.toNatClampNeg) = 0 then some ((-4), m2) else fX10_back_L27 N p1 (fun m7 => xLet (xUp m7 85 2 0) (fun m8 => gd (xin 4 98) (some ((m8 86 (4 : Int32).toNatClampNeg), m8)))) N 0 m2)))
  refine j_iload_n (pc := 0) rfl 1 rfl E dX10_back_0 ?_
  refine j_i2l (pc := 1) E dX10_back_1 ?_
  refine j_lconst (pc := 2) (v := 0) (by decide) E dX10_back_2 ?_
  refine j_lconst (pc := 3) (v := 1) (by decide) E dX10_back_3 ?_
  refine JF.xb (fun y1 m2 h3 => ?_)
  refine j_callSi (pc := 4) (st := []) E (kX10_in h3) mv_X10_in q_1079 [.long p1.toInt64, .long 0, .long 1] rfl rfl rfl (by decide) (Nat.le_of_ble_eq_true rfl) dX10_back_4 ?_
  refine j_if_ne (pc := 7) (tgt := 13) E dX10_back_7 (by decide) ?_ ?_
  · refine j_bipush (pc := 10) (v := (-2)) (by decide) E dX10_back_10 ?_
    exact j_iret (pc := 12) E R dX10_back_12
  · refine j_aload_n (pc := 13) rfl 0 rfl E dX10_back_13 ?_
    refine j_get (pc := 14) E xuX10 rfl s_85 (k := 4) (by decide) q_1086 rfl (xflds_ref rfl) dX10_back_14 ?_
    refine j_iload_n (pc := 17) rfl 1 rfl E dX10_back_17 ?_
    refine j_zald (pc := 18) E s_89 dX10_back_18 ?_
    refine j_if_ne (pc := 19) (tgt := 25) E dX10_back_19 (by decide) ?_ ?_
    · refine j_bipush (pc := 22) (v := (-4)) (by decide) E dX10_back_22 ?_
      exact j_iret (pc := 24) E R dX10_back_24
    · refine j_iconst (pc := 25) (v := 0) (by decide) E dX10_back_25 ?_
      refine j_istore_n (pc := 26) (lv1 := [(2, .int 0), (0, .ref (xa X 85)), (1, .int p1)]) E dX10_back_26 rfl (by decide) rfl ?_
      refine JF.sub [1, 2, 0] rfl ?_
      refine lX10_back_L27 N p1 _ E R (fun m7 => ?_) N 0 m2
      · refine j_aload_n (pc := 56) rfl 0 rfl E dX10_back_56 ?_
        refine j_iconst (pc := 57) (v := 0) (by decide) E dX10_back_57 ?_
        refine JF.xlet (fun m8 e9 => ?_)
        refine j_put (pc := 58) E xuX10 tyX10 tyX10_ok nmX10 rfl s_85 rfl (k := 2) (by decide) q_1084 rfl rfl (ty := .int) (by decide +kernel) rfl rfl dX10_back_58 e9 ?_
        refine j_aload_n (pc := 61) rfl 0 rfl E dX10_back_61 ?_
        refine j_get (pc := 62) E xuX10 rfl s_85 (k := 0) (by decide) q_1082 rfl (xflds_ref rfl) dX10_back_62 ?_
        refine j_iconst (pc := 65) (v := 4) (by decide) E dX10_back_65 ?_
        refine j_iald (pc := 66) E s_86 dX10_back_66 ?_
        exact j_iret (pc := 67) E R dX10_back_67
def fX10_ways_L4 (N : Nat) (v1 : Int32) (k24 : Int32 → XS → Option XO) : Nat → Int32 → Int32 → XS → Option XO
  | 0, _, _, _ => none
  | n + 1, v2, v3, σ => if v1 ≤ v3 then k24 v2 σ else gd (xin 0 98) (xLetI (v2 * (σ 86 (0 : Int32).toNatClampNeg)) (fun x1 => fX10_ways_L4 N v1 k24 n x1 (v3 + 1) σ))
set_option maxRecDepth 100000 in
set_option maxHeartbeats 4000000 in
theorem lX10_ways_L4 (N : Nat) (v1 : Int32) (k24 : Int32 → XS → Option XO) {X : XC} {o : XO} (E : XE X cX10_ways RX10 4 0 0) (R : XI X o cX10_ways) (K24 : ∀ (v2 : Int32) (σ : XS), JF X o 4 24 [(2, .int v2)] [] σ (k24 v2 σ)) : ∀ (n : Nat) (v2 : Int32) (v3 : Int32) (σ : XS), JF X o 4 4 [(0, .ref (xa X 85)), (1, .int v1), (2, .int v2), (3, .int v3)] [] σ (fX10_ways_L4 N v1 k24 n v2 v3 σ) := by
  intro n
  induction n with
  | zero => intro v2 v3 σ; exact JF.none
  | succ n ih =>
    intro v2 v3 σ
    show JF X o 4 4 [(0, .ref (xa X 85)), (1, .int v1), (2, .int v2), (3, .int v3)] [] σ (if v1 ≤ v3 then k24 v2 σ else gd (xin 0 98) (xLetI (v2 * (σ 86 (0 : Int32).toNatClampNeg)) (fun x1 => fX10_ways_L4 N v1 k24 n x1 (v3 + 1) σ)))
    refine j_iload_n (pc := 4) rfl 3 rfl E dX10_ways_4 ?_
    refine j_iload_n (pc := 5) rfl 1 rfl E dX10_ways_5 ?_
    refine j_icmp_ge (pc := 6) (tgt := 24) E dX10_ways_6 (by decide) ?_ ?_
    · refine JF.sub [2] rfl ?_
      exact K24 v2 σ
    · refine j_iload_n (pc := 9) rfl 2 rfl E dX10_ways_9 ?_
      refine j_aload_n (pc := 10) rfl 0 rfl E dX10_ways_10 ?_
      refine j_get (pc := 11) E xuX10 rfl s_85 (k := 0) (by decide) q_1082 rfl (xflds_ref rfl) dX10_ways_11 ?_
      refine j_iconst (pc := 14) (v := 0) (by decide) E dX10_ways_14 ?_
      refine j_iald (pc := 15) E s_86 dX10_ways_15 ?_
      refine j_imul (pc := 16) E dX10_ways_16 ?_
      refine JF.xletI (fun x1 => ?_)
      refine j_istore_n (pc := 17) (lv1 := [(2, .int x1), (0, .ref (xa X 85)), (1, .int v1), (3, .int v3)]) E dX10_ways_17 rfl (by decide) rfl ?_
      refine j_iinc (pc := 18) (v := (v3 + 1)) (lv1 := [(3, .int (v3 + 1)), (2, .int x1), (0, .ref (xa X 85)), (1, .int v1)]) E dX10_ways_18 3 rfl rfl (by decide) rfl ?_
      refine j_goto (pc := 21) (tgt := 4) E dX10_ways_21 (by decide) ?_
      refine JF.sub [2, 3, 1, 0] rfl ?_
      exact ih x1 (v3 + 1) σ
def fX10_ways (N : Nat) (σ : XS) (p1 : Int32) : Option XO := fX10_ways_L4 N p1 (fun x2 m3 => some (x2, m3)) N 1 0 σ
set_option maxRecDepth 100000 in
set_option maxHeartbeats 4000000 in
theorem kX10_ways {N : Nat} {σ : XS} {p1 : Int32} {o : XO} (h : fX10_ways N σ p1 = some o) : CtI yX10_ways cX10_ways 4 (some .int) 0 0 (fun Am ad => [.ref (Am 85), .int p1]) σ o := by
  refine ct_int (by decide) (fun _ _ => Nat.le_of_ble_eq_true rfl) (fun X E R => ?_)
  rw [← h]
  show JF X o 4 0 [(0, .ref (xa X 85)), (1, .int p1)] [] σ (fX10_ways_L4 N p1 (fun x2 m3 => some (x2, m3)) N 1 0 σ)
  refine j_iconst (pc := 0) (v := 1) (by decide) E dX10_ways_0 ?_
  refine j_istore_n (pc := 1) (lv1 := [(2, .int 1), (0, .ref (xa X 85)), (1, .int p1)]) E dX10_ways_1 rfl (by decide) rfl ?_
  refine j_iconst (pc := 2) (v := 0) (by decide) E dX10_ways_2 ?_
  refine j_istore_n (pc := 3) (lv1 := [(3, .int 0), (2, .int 1), (0, .ref (xa X 85)), (1, .int p1)]) E dX10_ways_3 rfl (by decide) rfl ?_
  refine JF.sub [2, 3, 1, 0] rfl ?_
  refine lX10_ways_L4 N p1 _ E R (fun x2 m3 => ?_) N 1 0 σ
  · refine j_iload_n (pc := 24) rfl 0 rfl E dX10_ways_24 ?_
    exact j_iret (pc := 25) E R dX10_ways_25
def fX10_lays_L7 (N : Nat) (k42 : XS → Option XO) : Nat → Int32 → Int32 → XS → Option XO
  | 0, _, _, _ => none
  | n + 1, v3, v4, σ => if v4 < 0 then k42 σ else gd (xin 0 98) (gd (!decide ((σ 86 (0 : Int32).toNatClampNeg) = 0)) (xLet (xUp σ 94 v4.toNatClampNeg (v3 - v3 / (σ 86 (0 : Int32).toNatClampNeg) * (σ 86 (0 : Int32).toNatClampNeg))) (fun m1 => gd (xin v4 6) (gd (xin 0 98) (gd (!decide ((m1 86 (0 : Int32).toNatClampNeg) = 0)) (xLetI (v3 / (m1 86 (0 : Int32).toNatClampNeg)) (fun x4 => fX10_lays_L7 N k42 n x4 (v4 + (-1)) m1)))))))
set_option maxRecDepth 100000 in
set_option maxHeartbeats 4000000 in
theorem lX10_lays_L7 (N : Nat) (k42 : XS → Option XO) {X : XC} {o : XO} (E : XE X cX10_lays RX10 5 0 0) (R : XV X o cX10_lays) (K42 : ∀ (σ : XS), JF X o 5 42 [] [] σ (k42 σ)) : ∀ (n : Nat) (v3 : Int32) (v4 : Int32) (σ : XS), JF X o 5 7 [(0, .ref (xa X 85)), (3, .int v3), (4, .int v4)] [] σ (fX10_lays_L7 N k42 n v3 v4 σ) := by
  intro n
  induction n with
  | zero => intro v3 v4 σ; exact JF.none
  | succ n ih =>
    intro v3 v4 σ
    show JF X o 5 7 [(0, .ref (xa X 85)), (3, .int v3), (4, .int v4)] [] σ (if v4 < 0 then k42 σ else gd (xin 0 98) (gd (!decide ((σ 86 (0 : Int32).toNatClampNeg) = 0)) (xLet (xUp σ 94 v4.toNatClampNeg (v3 - v3 / (σ 86 (0 : Int32).toNatClampNeg) * (σ 86 (0 : Int32).toNatClampNeg))) (fun m1 => gd (xin v4 6) (gd (xin 0 98) (gd (!decide ((m1 86 (0 : Int32).toNatClampNeg) = 0)) (xLetI (v3 / (m1 86 (0 : Int32).toNatClampNeg)) (fun x4 => fX10_lays_L7 N k42 n x4 (v4 + (-1)) m1))))))))
    refine j_iload (pc := 7) 2 rfl E dX10_lays_7 ?_
    refine j_if_lt (pc := 9) (tgt := 42) E dX10_lays_9 (by decide) ?_ ?_
    · refine JF.sub [] rfl ?_
      exact K42  σ
    · refine j_aload_n (pc := 12) rfl 0 rfl E dX10_lays_12 ?_
      refine j_get (pc := 13) E xuX10 rfl s_85 (k := 21) (by decide) q_1103 rfl (xflds_ref rfl) dX10_lays_13 ?_
      refine j_iload (pc := 16) 2 rfl E dX10_lays_16 ?_
      refine j_iload_n (pc := 18) rfl 1 rfl E dX10_lays_18 ?_
      refine j_aload_n (pc := 19) rfl 0 rfl E dX10_lays_19 ?_
      refine j_get (pc := 20) E xuX10 rfl s_85 (k := 0) (by decide) q_1082 rfl (xflds_ref rfl) dX10_lays_20 ?_
      refine j_iconst (pc := 23) (v := 0) (by decide) E dX10_lays_23 ?_
      refine j_iald (pc := 24) E s_86 dX10_lays_24 ?_
      refine j_irem (pc := 25) E dX10_lays_25 ?_
      refine JF.xlet (fun m1 e2 => ?_)
      refine j_iast (pc := 26) E s_94 dX10_lays_26 e2 ?_
      refine j_iload_n (pc := 27) rfl 1 rfl E dX10_lays_27 ?_
      refine j_aload_n (pc := 28) rfl 0 rfl E dX10_lays_28 ?_
      refine j_get (pc := 29) E xuX10 rfl s_85 (k := 0) (by decide) q_1082 rfl (xflds_ref rfl) dX10_lays_29 ?_
      refine j_iconst (pc := 32) (v := 0) (by decide) E dX10_lays_32 ?_
      refine j_iald (pc := 33) E s_86 dX10_lays_33 ?_
      refine j_idiv (pc := 34) E dX10_lays_34 ?_
      refine JF.xletI (fun x4 => ?_)
      refine j_istore_n (pc := 35) (lv1 := [(3, .int x4), (0, .ref (xa X 85)), (4, .int v4)]) E dX10_lays_35 rfl (by decide) rfl ?_
      refine j_iinc (pc := 36) (v := (v4 + (-1))) (lv1 := [(4, .int (v4 + (-1))), (3, .int x4), (0, .ref (xa X 85))]) E dX10_lays_36 2 rfl rfl (by decide) rfl ?_
      refine j_goto (pc := 39) (tgt := 7) E dX10_lays_39 (by decide) ?_
      refine JF.sub [2, 1, 0] rfl ?_
      exact ih x4 (v4 + (-1)) m1
def fX10_lays (N : Nat) (σ : XS) (p1 : Int32) (p2 : Int32) : Option XO := fX10_lays_L7 N (fun m5 => some (0, m5)) N p1 (p2 - 1) σ
set_option maxRecDepth 100000 in
set_option maxHeartbeats 4000000 in
theorem kX10_lays {N : Nat} {σ : XS} {p1 : Int32} {p2 : Int32} {o : XO} (h : fX10_lays N σ p1 p2 = some o) : CtV yX10_lays cX10_lays 5 none 0 0 (fun Am ad => [.ref (Am 85), .int p1, .int p2]) σ o := by
  refine ct_void (by decide) (fun _ _ => Nat.le_of_ble_eq_true rfl) (fun X E R => ?_)
  rw [← h]
  show JF X o 5 0 [(0, .ref (xa X 85)), (1, .int p1), (2, .int p2)] [] σ (fX10_lays_L7 N (fun m5 => some (0, m5)) N p1 (p2 - 1) σ)
  refine j_iload_n (pc := 0) rfl 1 rfl E dX10_lays_0 ?_
  refine j_istore_n (pc := 1) (lv1 := [(3, .int p1), (0, .ref (xa X 85)), (1, .int p1), (2, .int p2)]) E dX10_lays_1 rfl (by decide) rfl ?_
  refine j_iload_n (pc := 2) rfl 3 rfl E dX10_lays_2 ?_
  refine j_iconst (pc := 3) (v := 1) (by decide) E dX10_lays_3 ?_
  refine j_isub (pc := 4) E dX10_lays_4 ?_
  refine j_istore (pc := 5) (lv1 := [(4, .int (p2 - 1)), (3, .int p1), (0, .ref (xa X 85)), (1, .int p1), (2, .int p2)]) E dX10_lays_5 (by decide) rfl ?_
  refine JF.sub [2, 1, 0] rfl ?_
  refine lX10_lays_L7 N _ E R (fun m5 => ?_) N p1 (p2 - 1) σ
  · exact j_vret (pc := 42) E R dX10_lays_42
def fX10_keepsFirst_L2 (N : Nat) (v1 : Int32) (k32 : XS → Option XO) : Nat → Int32 → XS → Option XO
  | 0, _, _ => none
  | n + 1, v2, σ => if v1 ≤ v2 then k32 σ else if (σ 85 23) = 0 then gd (xin v2 6) (xLet (xUp σ 95 v2.toNatClampNeg (σ 94 v2.toNatClampNeg)) (fun m1 => gd (xin v2 6) (fX10_keepsFirst_L2 N v1 k32 n (v2 + 1) m1))) else k32 σ
set_option maxRecDepth 100000 in
set_option maxHeartbeats 4000000 in
theorem lX10_keepsFirst_L2 (N : Nat) (v1 : Int32) (k32 : XS → Option XO) {X : XC} {o : XO} (E : XE X cX10_keepsFirst RX10 3 0 0) (R : XV X o cX10_keepsFirst) (K32 : ∀ (σ : XS), JF X o 3 32 [(0, .ref (xa X 85))] [] σ (k32 σ)) : ∀ (n : Nat) (v2 : Int32) (σ : XS), JF X o 3 2 [(0, .ref (xa X 85)), (1, .int v1), (2, .int v2)] [] σ (fX10_keepsFirst_L2 N v1 k32 n v2 σ) := by
  intro n
  induction n with
  | zero => intro v2 σ; exact JF.none
  | succ n ih =>
    intro v2 σ
    show JF X o 3 2 [(0, .ref (xa X 85)), (1, .int v1), (2, .int v2)] [] σ (if v1 ≤ v2 then k32 σ else if (σ 85 23) = 0 then gd (xin v2 6) (xLet (xUp σ 95 v2.toNatClampNeg (σ 94 v2.toNatClampNeg)) (fun m1 => gd (xin v2 6) (fX10_keepsFirst_L2 N v1 k32 n (v2 + 1) m1))) else k32 σ)
    refine j_iload_n (pc := 2) rfl 2 rfl E dX10_keepsFirst_2 ?_
    refine j_iload_n (pc := 3) rfl 1 rfl E dX10_keepsFirst_3 ?_
    refine j_icmp_ge (pc := 4) (tgt := 32) E dX10_keepsFirst_4 (by decide) ?_ ?_
    · refine JF.sub [0] rfl ?_
      exact K32  σ
    · refine j_aload_n (pc := 7) rfl 0 rfl E dX10_keepsFirst_7 ?_
      refine j_get (pc := 8) E xuX10 rfl s_85 (k := 23) (by decide) q_1105 rfl (xflds_int rfl) dX10_keepsFirst_8 ?_
      refine j_if_ne (pc := 11) (tgt := 32) E dX10_keepsFirst_11 (by decide) ?_ ?_
      · refine j_aload_n (pc := 14) rfl 0 rfl E dX10_keepsFirst_14 ?_
        refine j_get (pc := 15) E xuX10 rfl s_85 (k := 22) (by decide) q_1104 rfl (xflds_ref rfl) dX10_keepsFirst_15 ?_
        refine j_iload_n (pc := 18) rfl 2 rfl E dX10_keepsFirst_18 ?_
        refine j_aload_n (pc := 19) rfl 0 rfl E dX10_keepsFirst_19 ?_
        refine j_get (pc := 20) E xuX10 rfl s_85 (k := 21) (by decide) q_1103 rfl (xflds_ref rfl) dX10_keepsFirst_20 ?_
        refine j_iload_n (pc := 23) rfl 2 rfl E dX10_keepsFirst_23 ?_
        refine j_iald (pc := 24) E s_94 dX10_keepsFirst_24 ?_
        refine JF.xlet (fun m1 e2 => ?_)
        refine j_iast (pc := 25) E s_95 dX10_keepsFirst_25 e2 ?_
        refine j_iinc (pc := 26) (v := (v2 + 1)) (lv1 := [(2, .int (v2 + 1)), (0, .ref (xa X 85)), (1, .int v1)]) E dX10_keepsFirst_26 2 rfl rfl (by decide) rfl ?_
        refine j_goto (pc := 29) (tgt := 2) E dX10_keepsFirst_29 (by decide) ?_
        refine JF.sub [1, 2, 0] rfl ?_
        exact ih (v2 + 1) m1
      · refine JF.sub [0] rfl ?_
        exact K32  σ
def fX10_keepsFirst (N : Nat) (σ : XS) (p1 : Int32) : Option XO := fX10_keepsFirst_L2 N p1 (fun m4 => xLet (xUp m4 85 23 ((m4 85 23) + 1)) (fun m5 => some (0, m5))) N 0 σ
set_option maxRecDepth 100000 in
set_option maxHeartbeats 4000000 in
theorem kX10_keepsFirst {N : Nat} {σ : XS} {p1 : Int32} {o : XO} (h : fX10_keepsFirst N σ p1 = some o) : CtV yX10_keepsFirst cX10_keepsFirst 3 none 0 0 (fun Am ad => [.ref (Am 85), .int p1]) σ o := by
  refine ct_void (by decide) (fun _ _ => Nat.le_of_ble_eq_true rfl) (fun X E R => ?_)
  rw [← h]
  show JF X o 3 0 [(0, .ref (xa X 85)), (1, .int p1)] [] σ (fX10_keepsFirst_L2 N p1 (fun m4 => xLet (xUp m4 85 23 ((m4 85 23) + 1)) (fun m5 => some (0, m5))) N 0 σ)
  refine j_iconst (pc := 0) (v := 0) (by decide) E dX10_keepsFirst_0 ?_
  refine j_istore_n (pc := 1) (lv1 := [(2, .int 0), (0, .ref (xa X 85)), (1, .int p1)]) E dX10_keepsFirst_1 rfl (by decide) rfl ?_
  refine JF.sub [1, 2, 0] rfl ?_
  refine lX10_keepsFirst_L2 N p1 _ E R (fun m4 => ?_) N 0 σ
  · refine j_aload_n (pc := 32) rfl 0 rfl E dX10_keepsFirst_32 ?_
    refine j_dup (pc := 33) rfl E dX10_keepsFirst_33 ?_
    refine j_get (pc := 34) E xuX10 rfl s_85 (k := 23) (by decide) q_1105 rfl (xflds_int rfl) dX10_keepsFirst_34 ?_
    refine j_iconst (pc := 37) (v := 1) (by decide) E dX10_keepsFirst_37 ?_
    refine j_iadd (pc := 38) E dX10_keepsFirst_38 ?_
    refine JF.xlet (fun m5 e6 => ?_)
    refine j_put (pc := 39) E xuX10 tyX10 tyX10_ok nmX10 rfl s_85 rfl (k := 23) (by decide) q_1105 rfl rfl (ty := .int) (by decide +kernel) rfl rfl dX10_keepsFirst_39 e6 ?_
    exact j_vret (pc := 42) E R dX10_keepsFirst_42
def fX10_passesSome_J33 (N : Nat) (v1 : Int32) (v2 : Int32) (v3 : Int32) (v5 : Int32) (k6 : Int32 → Int32 → XS → Option XO) (σ : XS) : Option XO := xB (fX10_isPassed N σ 94 v1 v2 v5) (fun y1 m2 => if y1 = 0 then k6 0 (v5 + 1) m2 else k6 1 (v5 + 1) m2)
set_option maxRecDepth 100000 in
set_option maxHeartbeats 4000000 in
theorem lX10_passesSome_J33 (N : Nat) (v1 : Int32) (v2 : Int32) (v3 : Int32) (v5 : Int32) (k6 : Int32 → Int32 → XS → Option XO) {X : XC} {o : XO} (E : XE X cX10_passesSome RX10 6 4 96) (R : XZ X o cX10_passesSome .boolean) (K6 : ∀ (v4 : Int32) (v5 : Int32) (σ : XS), JF X o 6 6 [(0, .ref (xa X 85)), (1, .int v1), (2, .int v2), (3, .int v3), (4, .int v4), (5, .int v5)] [] σ (k6 v4 v5 σ)) (σ : XS) : JF X o 6 33 [(0, .ref (xa X 85)), (1, .int v1), (2, .int v2), (3, .int v3), (5, .int v5)] [] σ (fX10_passesSome_J33 N v1 v2 v3 v5 k6 σ) := by
  show JF X o 6 33 [(0, .ref (xa X 85)), (1, .int v1), (2, .int v2), (3, .int v3), (5, .int v5)] [] σ (xB (fX10_isPassed N σ 94 v1 v2 v5) (fun y1 m2 => if y1 = 0 then k6 0 (v5 + 1) m2 else k6 1 (v5 + 1) m2))
  refine j_aload_n (pc := 33) rfl 0 rfl E dX10_passesSome_33 ?_
  refine j_aload_n (pc := 34) rfl 0 rfl E dX10_passesSome_34 ?_
  refine j_get (pc := 35) E xuX10 rfl s_85 (k := 21) (by decide) q_1103 rfl (xflds_ref rfl) dX10_passesSome_35 ?_
  refine j_iload_n (pc := 38) rfl 1 rfl E dX10_passesSome_38 ?_
  refine j_iload_n (pc := 39) rfl 2 rfl E dX10_passesSome_39 ?_
  refine j_iload (pc := 40) 4 rfl E dX10_passesSome_40 ?_
  refine JF.xb (fun y1 m2 h3 => ?_)
  refine j_callVi (pc := 42) (st := []) E (kX10_isPassed xr_94 h3) mv_X10_isPassed rfl s_85 q_1321 [.ref (xa X 94), .int v1, .int v2, .int v5] rfl rfl rfl (by decide) (Nat.le_of_ble_eq_true rfl) dX10_passesSome_42 ?_
  refine j_if_eq (pc := 45) (tgt := 52) E dX10_passesSome_45 (by decide) ?_ ?_
  · refine j_iconst (pc := 52) (v := 0) (by decide) E dX10_passesSome_52 ?_
    refine j_istore (pc := 53) (lv1 := [(4, .int 0), (0, .ref (xa X 85)), (1, .int v1), (2, .int v2), (3, .int v3), (5, .int v5)]) E dX10_passesSome_53 (by decide) rfl ?_
    refine j_iinc (pc := 55) (v := (v5 + 1)) (lv1 := [(5, .int (v5 + 1)), (4, .int 0), (0, .ref (xa X 85)), (1, .int v1), (2, .int v2), (3, .int v3)]) E dX10_passesSome_55 5 rfl rfl (by decide) rfl ?_
    refine j_goto (pc := 58) (tgt := 6) E dX10_passesSome_58 (by decide) ?_
    refine JF.sub [2, 3, 4, 5, 1, 0] rfl ?_
    exact K6 0 (v5 + 1) m2
  · refine j_iconst (pc := 48) (v := 1) (by decide) E dX10_passesSome_48 ?_
    refine j_goto (pc := 49) (tgt := 53) E dX10_passesSome_49 (by decide) ?_
    refine j_istore (pc := 53) (lv1 := [(4, .int 1), (0, .ref (xa X 85)), (1, .int v1), (2, .int v2), (3, .int v3), (5, .int v5)]) E dX10_passesSome_53 (by decide) rfl ?_
    refine j_iinc (pc := 55) (v := (v5 + 1)) (lv1 := [(5, .int (v5 + 1)), (4, .int 1), (0, .ref (xa X 85)), (1, .int v1), (2, .int v2), (3, .int v3)]) E dX10_passesSome_55 5 rfl rfl (by decide) rfl ?_
    refine j_goto (pc := 58) (tgt := 6) E dX10_passesSome_58 (by decide) ?_
    refine JF.sub [2, 3, 4, 5, 1, 0] rfl ?_
    exact K6 1 (v5 + 1) m2
def fX10_passesSome_L6 (N : Nat) (v1 : Int32) (v2 : Int32) (v3 : Int32) (k61 : Int32 → XS → Option XO) : Nat → Int32 → Int32 → XS → Option XO
  | 0, _, _, _ => none
  | n + 1, v4, v5, σ => gd (xin 2 98) (if (σ 86 (2 : Int32).toNatClampNeg) ≤ v5 then k61 v4 σ else if v4 = 0 then fX10_passesSome_L6 N v1 v2 v3 k61 n 0 (v5 + 1) σ else if v3 = (-1) then fX10_passesSome_J33 N v1 v2 v3 v5 (fX10_passesSome_L6 N v1 v2 v3 k61 n) σ else if v5 = v3 then fX10_passesSome_J33 N v1 v2 v3 v5 (fX10_passesSome_L6 N v1 v2 v3 k61 n) σ else fX10_passesSome_L6 N v1 v2 v3 k61 n 1 (v5 + 1) σ)
set_option maxRecDepth 100000 in
set_option maxHeartbeats 4000000 in
theorem lX10_passesSome_L6 (N : Nat) (v1 : Int32) (v2 : Int32) (v3 : Int32) (k61 : Int32 → XS → Option XO) {X : XC} {o : XO} (E : XE X cX10_passesSome RX10 6 4 96) (R : XZ X o cX10_passesSome .boolean) (K61 : ∀ (v4 : Int32) (σ : XS), JF X o 6 61 [(4, .int v4)] [] σ (k61 v4 σ)) : ∀ (n : Nat) (v4 : Int32) (v5 : Int32) (σ : XS), JF X o 6 6 [(0, .ref (xa X 85)), (1, .int v1), (2, .int v2), (3, .int v3), (4, .int v4), (5, .int v5)] [] σ (fX10_passesSome_L6 N v1 v2 v3 k61 n v4 v5 σ) := by
  intro n
  induction n with
  | zero => intro v4 v5 σ; exact JF.none
  | succ n ih =>
    intro v4 v5 σ
    show JF X o 6 6 [(0, .ref (xa X 85)), (1, .int v1), (2, .int v2), (3, .int v3), (4, .int v4), (5, .int v5)] [] σ (gd (xin 2 98) (if (σ 86 (2 : Int32).toNatClampNeg) ≤ v5 then k61 v4 σ else if v4 = 0 then fX10_passesSome_L6 N v1 v2 v3 k61 n 0 (v5 + 1) σ else if v3 = (-1) then fX10_passesSome_J33 N v1 v2 v3 v5 (fX10_passesSome_L6 N v1 v2 v3 k61 n) σ else if v5 = v3 then fX10_passesSome_J33 N v1 v2 v3 v5 (fX10_passesSome_L6 N v1 v2 v3 k61 n) σ else fX10_passesSome_L6 N v1 v2 v3 k61 n 1 (v5 + 1) σ))
    refine j_iload (pc := 6) 5 rfl E dX10_passesSome_6 ?_
    refine j_aload_n (pc := 8) rfl 0 rfl E dX10_passesSome_8 ?_
    refine j_get (pc := 9) E xuX10 rfl s_85 (k := 0) (by decide) q_1082 rfl (xflds_ref rfl) dX10_passesSome_9 ?_
    refine j_iconst (pc := 12) (v := 2) (by decide) E dX10_passesSome_12 ?_
    refine j_iald (pc := 13) E s_86 dX10_passesSome_13 ?_
    refine j_icmp_ge (pc := 14) (tgt := 61) E dX10_passesSome_14 (by decide) ?_ ?_
    · refine JF.sub [4] rfl ?_
      exact K61 v4 σ
    · refine j_iload (pc := 17) 4 rfl E dX10_passesSome_17 ?_
      refine j_if_eq (pc := 19) (tgt := 52) E dX10_passesSome_19 (by decide) ?_ ?_
      · refine j_iconst (pc := 52) (v := 0) (by decide) E dX10_passesSome_52 ?_
        refine j_istore (pc := 53) (lv1 := [(4, .int 0), (0, .ref (xa X 85)), (1, .int v1), (2, .int v2), (3, .int v3), (5, .int v5)]) E dX10_passesSome_53 (by decide) rfl ?_
        refine j_iinc (pc := 55) (v := (v5 + 1)) (lv1 := [(5, .int (v5 + 1)), (4, .int 0), (0, .ref (xa X 85)), (1, .int v1), (2, .int v2), (3, .int v3)]) E dX10_passesSome_55 5 rfl rfl (by decide) rfl ?_
        refine j_goto (pc := 58) (tgt := 6) E dX10_passesSome_58 (by decide) ?_
        refine JF.sub [2, 3, 4, 5, 1, 0] rfl ?_
        exact ih 0 (v5 + 1) σ
      · refine j_iload_n (pc := 22) rfl 3 rfl E dX10_passesSome_22 ?_
        refine j_iconst (pc := 23) (v := (-1)) (by decide) E dX10_passesSome_23 ?_
        refine j_icmp_eq (pc := 24) (tgt := 33) E dX10_passesSome_24 (by decide) ?_ ?_
        · refine JF.sub [0, 1, 2, 3, 5] rfl ?_
          exact lX10_passesSome_J33 N v1 v2 v3 v5 (fX10_passesSome_L6 N v1 v2 v3 k61 n) E R ih σ
        · refine j_iload (pc := 27) 5 rfl E dX10_passesSome_27 ?_
          refine j_iload_n (pc := 29) rfl 3 rfl E dX10_passesSome_29 ?_
          refine j_icmp_ne (pc := 30) (tgt := 48) E dX10_passesSome_30 (by decide) ?_ ?_
          · refine JF.sub [0, 1, 2, 3, 5] rfl ?_
            exact lX10_passesSome_J33 N v1 v2 v3 v5 (fX10_passesSome_L6 N v1 v2 v3 k61 n) E R ih σ
          · refine j_iconst (pc := 48) (v := 1) (by decide) E dX10_passesSome_48 ?_
            refine j_goto (pc := 49) (tgt := 53) E dX10_passesSome_49 (by decide) ?_
            refine j_istore (pc := 53) (lv1 := [(4, .int 1), (0, .ref (xa X 85)), (1, .int v1), (2, .int v2), (3, .int v3), (5, .int v5)]) E dX10_passesSome_53 (by decide) rfl ?_
            refine j_iinc (pc := 55) (v := (v5 + 1)) (lv1 := [(5, .int (v5 + 1)), (4, .int 1), (0, .ref (xa X 85)), (1, .int v1), (2, .int v2), (3, .int v3)]) E dX10_passesSome_55 5 rfl rfl (by decide) rfl ?_
            refine j_goto (pc := 58) (tgt := 6) E dX10_passesSome_58 (by decide) ?_
            refine JF.sub [2, 3, 4, 5, 1, 0] rfl ?_
            exact ih 1 (v5 + 1) σ
def fX10_passesSome (N : Nat) (σ : XS) (p1 : Int32) (p2 : Int32) (p3 : Int32) : Option XO := fX10_passesSome_L6 N p1 p2 p3 (fun x4 m5 => gd (decide (x4 = 0) || decide (x4 = 1)) (some (x4, m5))) N 1 0 σ
set_option maxRecDepth 100000 in
set_option maxHeartbeats 4000000 in
theorem kX10_passesSome {N : Nat} {σ : XS} {p1 : Int32} {p2 : Int32} {p3 : Int32} {o : XO} (h : fX10_passesSome N σ p1 p2 p3 = some o) : CtI yX10_passesSome cX10_passesSome 6 (some .boolean) 4 96 (fun Am ad => [.ref (Am 85), .int p1, .int p2, .int p3]) σ o := by
  refine ct_z (by decide) (fun _ _ => Nat.le_of_ble_eq_true rfl) (fun X E R => ?_)
  rw [← h]
  show JF X o 6 0 [(0, .ref (xa X 85)), (1, .int p1), (2, .int p2), (3, .int p3)] [] σ (fX10_passesSome_L6 N p1 p2 p3 (fun x4 m5 => gd (decide (x4 = 0) || decide (x4 = 1)) (some (x4, m5))) N 1 0 σ)
  refine j_iconst (pc := 0) (v := 1) (by decide) E dX10_passesSome_0 ?_
  refine j_istore (pc := 1) (lv1 := [(4, .int 1), (0, .ref (xa X 85)), (1, .int p1), (2, .int p2), (3, .int p3)]) E dX10_passesSome_1 (by decide) rfl ?_
  refine j_iconst (pc := 3) (v := 0) (by decide) E dX10_passesSome_3 ?_
  refine j_istore (pc := 4) (lv1 := [(5, .int 0), (4, .int 1), (0, .ref (xa X 85)), (1, .int p1), (2, .int p2), (3, .int p3)]) E dX10_passesSome_4 (by decide) rfl ?_
  refine JF.sub [2, 3, 4, 5, 1, 0] rfl ?_
  refine lX10_passesSome_L6 N p1 p2 p3 _ E R (fun x4 m5 => ?_) N 1 0 σ
  · refine j_iload (pc := 61) 0 rfl E dX10_passesSome_61 ?_
    exact j_zretg (pc := 63) E R dX10_passesSome_63
def fX10_shortestOf_L22 (N : Nat) (v1 : Int32) (v2 : Int32) (v3 : Int32) (v4 : Int32) (k57 : XS → Option XO) : Nat → Int32 → XS → Option XO
  | 0, _, _ => none
  | n + 1, v5, σ => if v4 ≤ v5 then k57 σ else xB (fX10_lays N σ v5 v3) (fun _ m7 => xB (fX10_passesSome N m7 v3 v1 v2) (fun y9 m10 => if y9 = 0 then fX10_shortestOf_L22 N v1 v2 v3 v4 k57 n (v5 + 1) m10 else xB (fX10_keepsFirst N m10 v3) (fun _ m13 => fX10_shortestOf_L22 N v1 v2 v3 v4 k57 n (v5 + 1) m13)))
set_option maxRecDepth 100000 in
set_option maxHeartbeats 4000000 in
theorem lX10_shortestOf_L22 (N : Nat) (v1 : Int32) (v2 : Int32) (v3 : Int32) (v4 : Int32) (k57 : XS → Option XO) {X : XC} {o : XO} (E : XE X cX10_shortestOf RX10 6 5 121) (R : XI X o cX10_shortestOf) (K57 : ∀ (σ : XS), JF X o 6 57 [(0, .ref (xa X 85)), (1, .int v1), (2, .int v2), (3, .int v3)] [] σ (k57 σ)) : ∀ (n : Nat) (v5 : Int32) (σ : XS), JF X o 6 22 [(0, .ref (xa X 85)), (1, .int v1), (2, .int v2), (3, .int v3), (4, .int v4), (5, .int v5)] [] σ (fX10_shortestOf_L22 N v1 v2 v3 v4 k57 n v5 σ) := by
  intro n
  induction n with
  | zero => intro v5 σ; exact JF.none
  | succ n ih =>
    intro v5 σ
    show JF X o 6 22 [(0, .ref (xa X 85)), (1, .int v1), (2, .int v2), (3, .int v3), (4, .int v4), (5, .int v5)] [] σ (if v4 ≤ v5 then k57 σ else xB (fX10_lays N σ v5 v3) (fun _ m7 => xB (fX10_passesSome N m7 v3 v1 v2) (fun y9 m10 => if y9 = 0 then fX10_shortestOf_L22 N v1 v2 v3 v4 k57 n (v5 + 1) m10 else xB (fX10_keepsFirst N m10 v3) (fun _ m13 => fX10_shortestOf_L22 N v1 v2 v3 v4 k57 n (v5 + 1) m13))))
    refine j_iload (pc := 22) 5 rfl E dX10_shortestOf_22 ?_
    refine j_iload (pc := 24) 4 rfl E dX10_shortestOf_24 ?_
    refine j_icmp_ge (pc := 26) (tgt := 57) E dX10_shortestOf_26 (by decide) ?_ ?_
    · refine JF.sub [0, 1, 2, 3] rfl ?_
      exact K57  σ
    · refine j_aload_n (pc := 29) rfl 0 rfl E dX10_shortestOf_29 ?_
      refine j_iload (pc := 30) 5 rfl E dX10_shortestOf_30 ?_
      refine j_iload_n (pc := 32) rfl 3 rfl E dX10_shortestOf_32 ?_
      refine JF.xb (fun y6 m7 h8 => ?_)
      refine j_callVv (pc := 33) (st := []) E (kX10_lays h8) mv_X10_lays rfl s_85 q_1377 [.int v5, .int v3] rfl rfl rfl (by decide) (Nat.le_of_ble_eq_true rfl) dX10_shortestOf_33 ?_
      refine j_aload_n (pc := 36) rfl 0 rfl E dX10_shortestOf_36 ?_
      refine j_iload_n (pc := 37) rfl 3 rfl E dX10_shortestOf_37 ?_
      refine j_iload_n (pc := 38) rfl 1 rfl E dX10_shortestOf_38 ?_
      refine j_iload_n (pc := 39) rfl 2 rfl E dX10_shortestOf_39 ?_
      refine JF.xb (fun y9 m10 h11 => ?_)
      refine j_callVi (pc := 40) (st := []) E (kX10_passesSome h11) mv_X10_passesSome rfl s_85 q_1381 [.int v3, .int v1, .int v2] rfl rfl rfl (by decide) (Nat.le_of_ble_eq_true rfl) dX10_shortestOf_40 ?_
      refine j_if_eq (pc := 43) (tgt := 51) E dX10_shortestOf_43 (by decide) ?_ ?_
      · refine j_iinc (pc := 51) (v := (v5 + 1)) (lv1 := [(5, .int (v5 + 1)), (0, .ref (xa X 85)), (1, .int v1), (2, .int v2), (3, .int v3), (4, .int v4)]) E dX10_shortestOf_51 5 rfl rfl (by decide) rfl ?_
        refine j_goto (pc := 54) (tgt := 22) E dX10_shortestOf_54 (by decide) ?_
        refine JF.sub [1, 2, 3, 4, 5, 0] rfl ?_
        exact ih (v5 + 1) m10
      · refine j_aload_n (pc := 46) rfl 0 rfl E dX10_shortestOf_46 ?_
        refine j_iload_n (pc := 47) rfl 3 rfl E dX10_shortestOf_47 ?_
        refine JF.xb (fun y12 m13 h14 => ?_)
        refine j_callVv (pc := 48) (st := []) E (kX10_keepsFirst h14) mv_X10_keepsFirst rfl s_85 q_1385 [.int v3] rfl rfl rfl (by decide) (Nat.le_of_ble_eq_true rfl) dX10_shortestOf_48 ?_
        refine j_iinc (pc := 51) (v := (v5 + 1)) (lv1 := [(5, .int (v5 + 1)), (0, .ref (xa X 85)), (1, .int v1), (2, .int v2), (3, .int v3), (4, .int v4)]) E dX10_shortestOf_51 5 rfl rfl (by decide) rfl ?_
        refine j_goto (pc := 54) (tgt := 22) E dX10_shortestOf_54 (by decide) ?_
        refine JF.sub [1, 2, 3, 4, 5, 0] rfl ?_
        exact ih (v5 + 1) m13
def fX10_shortestOf_L7 (N : Nat) (v1 : Int32) (v2 : Int32) (k64 : Int32 → XS → Option XO) (k72 : XS → Option XO) : Nat → Int32 → XS → Option XO
  | 0, _, _ => none
  | n + 1, v3, σ => if 4 < v3 then k72 σ else xB (fX10_ways N σ v3) (fun y3 m4 => fX10_shortestOf_L22 N v1 v2 v3 y3 (fun m15 => if (m15 85 23) ≤ 0 then fX10_shortestOf_L7 N v1 v2 k64 k72 n (v3 + 1) m15 else k64 v3 m15) N 0 m4)
set_option maxRecDepth 100000 in
set_option maxHeartbeats 4000000 in
theorem lX10_shortestOf_L7 (N : Nat) (v1 : Int32) (v2 : Int32) (k64 : Int32 → XS → Option XO) (k72 : XS → Option XO) {X : XC} {o : XO} (E : XE X cX10_shortestOf RX10 6 5 121) (R : XI X o cX10_shortestOf) (K64 : ∀ (v3 : Int32) (σ : XS), JF X o 6 64 [(3, .int v3)] [] σ (k64 v3 σ)) (K72 : ∀ (σ : XS), JF X o 6 72 [] [] σ (k72 σ)) : ∀ (n : Nat) (v3 : Int32) (σ : XS), JF X o 6 7 [(0, .ref (xa X 85)), (1, .int v1), (2, .int v2), (3, .int v3)] [] σ (fX10_shortestOf_L7 N v1 v2 k64 k72 n v3 σ) := by
  intro n
  induction n with
  | zero => intro v3 σ; exact JF.none
  | succ n ih =>
    intro v3 σ
    show JF X o 6 7 [(0, .ref (xa X 85)), (1, .int v1), (2, .int v2), (3, .int v3)] [] σ (if 4 < v3 then k72 σ else xB (fX10_ways N σ v3) (fun y3 m4 => fX10_shortestOf_L22 N v1 v2 v3 y3 (fun m15 => if (m15 85 23) ≤ 0 then fX10_shortestOf_L7 N v1 v2 k64 k72 n (v3 + 1) m15 else k64 v3 m15) N 0 m4))
    refine j_iload_n (pc := 7) rfl 3 rfl E dX10_shortestOf_7 ?_
    refine j_iconst (pc := 8) (v := 4) (by decide) E dX10_shortestOf_8 ?_
    refine j_icmp_gt (pc := 9) (tgt := 72) E dX10_shortestOf_9 (by decide) ?_ ?_
    · refine JF.sub [] rfl ?_
      exact K72  σ
    · refine j_aload_n (pc := 12) rfl 0 rfl E dX10_shortestOf_12 ?_
      refine j_iload_n (pc := 13) rfl 3 rfl E dX10_shortestOf_13 ?_
      refine JF.xb (fun y3 m4 h5 => ?_)
      refine j_callVi (pc := 14) (st := []) E (kX10_ways h5) mv_X10_ways rfl s_85 q_1373 [.int v3] rfl rfl rfl (by decide) (Nat.le_of_ble_eq_true rfl) dX10_shortestOf_14 ?_
      refine j_istore (pc := 17) (lv1 := [(4, .int y3), (0, .ref (xa X 85)), (1, .int v1), (2, .int v2), (3, .int v3)]) E dX10_shortestOf_17 (by decide) rfl ?_
      refine j_iconst (pc := 19) (v := 0) (by decide) E dX10_shortestOf_19 ?_
      refine j_istore (pc := 20) (lv1 := [(5, .int 0), (4, .int y3), (0, .ref (xa X 85)), (1, .int v1), (2, .int v2), (3, .int v3)]) E dX10_shortestOf_20 (by decide) rfl ?_
      refine JF.sub [2, 3, 4, 5, 1, 0] rfl ?_
      refine lX10_shortestOf_L22 N v1 v2 v3 y3 _ E R (fun m15 => ?_) N 0 m4
      · refine j_aload_n (pc := 57) rfl 0 rfl E dX10_shortestOf_57 ?_
        refine j_get (pc := 58) E xuX10 rfl s_85 (k := 23) (by decide) q_1105 rfl (xflds_int rfl) dX10_shortestOf_58 ?_
        refine j_if_le (pc := 61) (tgt := 66) E dX10_shortestOf_61 (by decide) ?_ ?_
        · refine j_iinc (pc := 66) (v := (v3 + 1)) (lv1 := [(3, .int (v3 + 1)), (0, .ref (xa X 85)), (1, .int v1), (2, .int v2)]) E dX10_shortestOf_66 3 rfl rfl (by decide) rfl ?_
          refine j_goto (pc := 69) (tgt := 7) E dX10_shortestOf_69 (by decide) ?_
          refine JF.sub [1, 2, 3, 0] rfl ?_
          exact ih (v3 + 1) m15
        · refine JF.sub [3] rfl ?_
          exact K64 v3 m15
def fX10_shortestOf (N : Nat) (σ : XS) (p1 : Int32) (p2 : Int32) : Option XO := xLet (xUp σ 85 23 0) (fun m1 => fX10_shortestOf_L7 N p1 p2 (fun x16 m17 => some (x16, m17)) (fun m18 => some ((-1), m18)) N 1 m1)
set_option maxRecDepth 100000 in
set_option maxHeartbeats 4000000 in
theorem kX10_shortestOf {N : Nat} {σ : XS} {p1 : Int32} {p2 : Int32} {o : XO} (h : fX10_shortestOf N σ p1 p2 = some o) : CtI yX10_shortestOf cX10_shortestOf 6 (some .int) 5 121 (fun Am ad => [.ref (Am 85), .int p1, .int p2]) σ o := by
  refine ct_int (by decide) (fun _ _ => Nat.le_of_ble_eq_true rfl) (fun X E R => ?_)
  rw [← h]
  show JF X o 6 0 [(0, .ref (xa X 85)), (1, .int p1), (2, .int p2)] [] σ (xLet (xUp σ 85 23 0) (fun m1 => fX10_shortestOf_L7 N p1 p2 (fun x16 m17 => some (x16, m17)) (fun m18 => some ((-1), m18)) N 1 m1))
  refine j_aload_n (pc := 0) rfl 0 rfl E dX10_shortestOf_0 ?_
  refine j_iconst (pc := 1) (v := 0) (by decide) E dX10_shortestOf_1 ?_
  refine JF.xlet (fun m1 e2 => ?_)
  refine j_put (pc := 2) E xuX10 tyX10 tyX10_ok nmX10 rfl s_85 rfl (k := 23) (by decide) q_1105 rfl rfl (ty := .int) (by decide +kernel) rfl rfl dX10_shortestOf_2 e2 ?_
  refine j_iconst (pc := 5) (v := 1) (by decide) E dX10_shortestOf_5 ?_
  refine j_istore_n (pc := 6) (lv1 := [(3, .int 1), (0, .ref (xa X 85)), (1, .int p1), (2, .int p2)]) E dX10_shortestOf_6 rfl (by decide) rfl ?_
  refine JF.sub [1, 2, 3, 0] rfl ?_
  refine lX10_shortestOf_L7 N p1 p2 _ _ E R (fun x16 m17 => ?_) (fun m18 => ?_) N 1 m1
  · refine j_iload_n (pc := 64) rfl 0 rfl E dX10_shortestOf_64 ?_
    exact j_iret (pc := 65) E R dX10_shortestOf_65
  · refine j_iconst (pc := 72) (v := (-1)) (by decide) E dX10_shortestOf_72 ?_
    exact j_iret (pc := 73) E R dX10_shortestOf_73
def fX10_shortest (N : Nat) (σ : XS) (p1 : Int32) (p2 : Int32) (p3 : Int32) : Option XO := xB (fX10_areBoth N σ p1 p2) (fun y1 m2 => if y1 = 0 then some ((-2), m2) else xB (fX10_in N m2 p3.toInt64 0 1) (fun y4 m5 => if y4 = 0 then some ((-3), m5) else xB (fX10_shortestOf N m5 p1 p2) (fun y7 m8 => if y7 = (-1) then some ((-1), m8) else if p3 = 0 then some (y7, m8) else some ((m8 85 23), m8))))
set_option maxRecDepth 100000 in
set_option maxHeartbeats 4000000 in
theorem kX10_shortest {N : Nat} {σ : XS} {p1 : Int32} {p2 : Int32} {p3 : Int32} {o : XO} (h : fX10_shortest N σ p1 p2 p3 = some o) : CtI yX10_shortest cX10_shortest 5 (some .int) 6 146 (fun Am ad => [.ref (Am 85), .int p1, .int p2, .int p3]) σ o := by
  refine ct_int (by decide) (fun _ _ => Nat.le_of_ble_eq_true rfl) (fun X E R => ?_)
  rw [← h]
  show JF X o 5 0 [(0, .ref (xa X 85)), (1, .int p1), (2, .int p2), (3, .int p3)] [] σ (xB (fX10_areBoth N σ p1 p2) (fun y1 m2 => if y1 = 0 then some ((-2), m2) else xB (fX10_in N m2 p3.toInt64 0 1) (fun y4 m5 => if y4 = 0 then some ((-3), m5) else xB (fX10_shortestOf N m5 p1 p2) (fun y7 m8 => if y7 = (-1) then some ((-1), m8) else if p3 = 0 then some (y7, m8) else some ((m8 85 23), m8)))))
  refine j_aload_n (pc := 0) rfl 0 rfl E dX10_shortest_0 ?_
  refine j_iload_n (pc := 1) rfl 1 rfl E dX10_shortest_1 ?_
  refine j_iload_n (pc := 2) rfl 2 rfl E dX10_shortest_2 ?_
  refine JF.xb (fun y1 m2 h3 => ?_)
  refine j_callVi (pc := 3) (st := []) E (kX10_areBoth h3) mv_X10_areBoth rfl s_85 q_1317 [.int p1, .int p2] rfl rfl rfl (by decide) (Nat.le_of_ble_eq_true rfl) dX10_shortest_3 ?_
  refine j_if_ne (pc := 6) (tgt := 12) E dX10_shortest_6 (by decide) ?_ ?_
  · refine j_bipush (pc := 9) (v := (-2)) (by decide) E dX10_shortest_9 ?_
    exact j_iret (pc := 11) E R dX10_shortest_11
  · refine j_iload_n (pc := 12) rfl 3 rfl E dX10_shortest_12 ?_
    refine j_i2l (pc := 13) E dX10_shortest_13 ?_
    refine j_lconst (pc := 14) (v := 0) (by decide) E dX10_shortest_14 ?_
    refine j_lconst (pc := 15) (v := 1) (by decide) E dX10_shortest_15 ?_
    refine JF.xb (fun y4 m5 h6 => ?_)
    refine j_callSi (pc := 16) (st := []) E (kX10_in h6) mv_X10_in q_1079 [.long p3.toInt64, .long 0, .long 1] rfl rfl rfl (by decide) (Nat.le_of_ble_eq_true rfl) dX10_shortest_16 ?_
    refine j_if_ne (pc := 19) (tgt := 25) E dX10_shortest_19 (by decide) ?_ ?_
    · refine j_bipush (pc := 22) (v := (-3)) (by decide) E dX10_shortest_22 ?_
      exact j_iret (pc := 24) E R dX10_shortest_24
    · refine j_aload_n (pc := 25) rfl 0 rfl E dX10_shortest_25 ?_
      refine j_iload_n (pc := 26) rfl 1 rfl E dX10_shortest_26 ?_
      refine j_iload_n (pc := 27) rfl 2 rfl E dX10_shortest_27 ?_
      refine JF.xb (fun y7 m8 h9 => ?_)
      refine j_callVi (pc := 28) (st := []) E (kX10_shortestOf h9) mv_X10_shortestOf rfl s_85 q_1369 [.int p1, .int p2] rfl rfl rfl (by decide) (Nat.le_of_ble_eq_true rfl) dX10_shortest_28 ?_
      refine j_istore (pc := 31) (lv1 := [(4, .int y7), (0, .ref (xa X 85)), (1, .int p1), (2, .int p2), (3, .int p3)]) E dX10_shortest_31 (by decide) rfl ?_
      refine j_iload (pc := 33) 0 rfl E dX10_shortest_33 ?_
      refine j_iconst (pc := 35) (v := (-1)) (by decide) E dX10_shortest_35 ?_
      refine j_icmp_ne (pc := 36) (tgt := 43) E dX10_shortest_36 (by decide) ?_ ?_
      · refine j_iconst (pc := 39) (v := (-1)) (by decide) E dX10_shortest_39 ?_
        refine j_goto (pc := 40) (tgt := 56) E dX10_shortest_40 (by decide) ?_
        exact j_iret (pc := 56) E R dX10_shortest_56
      · refine j_iload_n (pc := 43) rfl 4 rfl E dX10_shortest_43 ?_
        refine j_if_ne (pc := 44) (tgt := 52) E dX10_shortest_44 (by decide) ?_ ?_
        · refine j_iload (pc := 47) 0 rfl E dX10_shortest_47 ?_
          refine j_goto (pc := 49) (tgt := 56) E dX10_shortest_49 (by decide) ?_
          exact j_iret (pc := 56) E R dX10_shortest_56
        · refine j_aload_n (pc := 52) rfl 1 rfl E dX10_shortest_52 ?_
          refine j_get (pc := 53) E xuX10 rfl s_85 (k := 23) (by decide) q_1105 rfl (xflds_int rfl) dX10_shortest_53 ?_
          exact j_iret (pc := 56) E R dX10_shortest_56
def fX10_shortestWord (N : Nat) (σ : XS) (p1 : Int32) (p2 : Int32) (p3 : Int32) : Option XO := xB (fX10_areBoth N σ p1 p2) (fun y1 m2 => if y1 = 0 then some ((-2), m2) else if 0 ≤ p3 then xB (fX10_shortestOf N m2 p1 p2) (fun y4 m5 => if y4 ≤ p3 then some ((-1), m5) else gd (xin p3 6) (some ((m5 95 p3.toNatClampNeg), m5))) else some ((-3), m2))
set_option maxRecDepth 100000 in
set_option maxHeartbeats 4000000 in
theorem kX10_shortestWord {N : Nat} {σ : XS} {p1 : Int32} {p2 : Int32} {p3 : Int32} {o : XO} (h : fX10_shortestWord N σ p1 p2 p3 = some o) : CtI yX10_shortestWord cX10_shortestWord 5 (some .int) 6 146 (fun Am ad => [.ref (Am 85), .int p1, .int p2, .int p3]) σ o := by
  refine ct_int (by decide) (fun _ _ => Nat.le_of_ble_eq_true rfl) (fun X E R => ?_)
  rw [← h]
  show JF X o 5 0 [(0, .ref (xa X 85)), (1, .int p1), (2, .int p2), (3, .int p3)] [] σ (xB (fX10_areBoth N σ p1 p2) (fun y1 m2 => if y1 = 0 then some ((-2), m2) else if 0 ≤ p3 then xB (fX10_shortestOf N m2 p1 p2) (fun y4 m5 => if y4 ≤ p3 then some ((-1), m5) else gd (xin p3 6) (some ((m5 95 p3.toNatClampNeg), m5))) else some ((-3), m2)))
  refine j_aload_n (pc := 0) rfl 0 rfl E dX10_shortestWord_0 ?_
  refine j_iload_n (pc := 1) rfl 1 rfl E dX10_shortestWord_1 ?_
  refine j_iload_n (pc := 2) rfl 2 rfl E dX10_shortestWord_2 ?_
  refine JF.xb (fun y1 m2 h3 => ?_)
  refine j_callVi (pc := 3) (st := []) E (kX10_areBoth h3) mv_X10_areBoth rfl s_85 q_1317 [.int p1, .int p2] rfl rfl rfl (by decide) (Nat.le_of_ble_eq_true rfl) dX10_shortestWord_3 ?_
  refine j_if_ne (pc := 6) (tgt := 12) E dX10_shortestWord_6 (by decide) ?_ ?_
  · refine j_bipush (pc := 9) (v := (-2)) (by decide) E dX10_shortestWord_9 ?_
    exact j_iret (pc := 11) E R dX10_shortestWord_11
  · refine j_iload_n (pc := 12) rfl 3 rfl E dX10_shortestWord_12 ?_
    refine j_if_ge (pc := 13) (tgt := 19) E dX10_shortestWord_13 (by decide) ?_ ?_
    · refine j_aload_n (pc := 19) rfl 0 rfl E dX10_shortestWord_19 ?_
      refine j_iload_n (pc := 20) rfl 1 rfl E dX10_shortestWord_20 ?_
      refine j_iload_n (pc := 21) rfl 2 rfl E dX10_shortestWord_21 ?_
      refine JF.xb (fun y4 m5 h6 => ?_)
      refine j_callVi (pc := 22) (st := []) E (kX10_shortestOf h6) mv_X10_shortestOf rfl s_85 q_1369 [.int p1, .int p2] rfl rfl rfl (by decide) (Nat.le_of_ble_eq_true rfl) dX10_shortestWord_22 ?_
      refine j_istore (pc := 25) (lv1 := [(4, .int y4), (0, .ref (xa X 85)), (1, .int p1), (2, .int p2), (3, .int p3)]) E dX10_shortestWord_25 (by decide) rfl ?_
      refine j_iload_n (pc := 27) rfl 4 rfl E dX10_shortestWord_27 ?_
      refine j_iload (pc := 28) 0 rfl E dX10_shortestWord_28 ?_
      refine j_icmp_ge (pc := 30) (tgt := 42) E dX10_shortestWord_30 (by decide) ?_ ?_
      · refine j_iconst (pc := 42) (v := (-1)) (by decide) E dX10_shortestWord_42 ?_
        exact j_iret (pc := 43) E R dX10_shortestWord_43
      · refine j_aload_n (pc := 33) rfl 1 rfl E dX10_shortestWord_33 ?_
        refine j_get (pc := 34) E xuX10 rfl s_85 (k := 22) (by decide) q_1104 rfl (xflds_ref rfl) dX10_shortestWord_34 ?_
        refine j_iload_n (pc := 37) rfl 4 rfl E dX10_shortestWord_37 ?_
        refine j_iald (pc := 38) E s_95 dX10_shortestWord_38 ?_
        refine j_goto (pc := 39) (tgt := 43) E dX10_shortestWord_39 (by decide) ?_
        exact j_iret (pc := 43) E R dX10_shortestWord_43
    · refine j_bipush (pc := 16) (v := (-3)) (by decide) E dX10_shortestWord_16 ?_
      exact j_iret (pc := 18) E R dX10_shortestWord_18
def fX10_forAll (N : Nat) (σ : XS) (p1 : Int32) (p2 : Int32) : Option XO := xB (fX10_isWare N σ p1) (fun y1 m2 => if y1 = 0 then some ((-2), m2) else xB (fX10_in N m2 p2.toInt64 0 1) (fun y4 m5 => if y4 = 0 then some ((-3), m5) else gd (xin 2 98) (if (m5 86 (2 : Int32).toNatClampNeg) = 0 then some ((-4), m5) else xB (fX10_shortestOf N m5 p1 (-1)) (fun y7 m8 => if y7 = (-1) then some ((-1), m8) else if p2 = 0 then some (y7, m8) else some ((m8 85 23), m8)))))
set_option maxRecDepth 100000 in
set_option maxHeartbeats 4000000 in
theorem kX10_forAll {N : Nat} {σ : XS} {p1 : Int32} {p2 : Int32} {o : XO} (h : fX10_forAll N σ p1 p2 = some o) : CtI yX10_forAll cX10_forAll 4 (some .int) 6 146 (fun Am ad => [.ref (Am 85), .int p1, .int p2]) σ o := by
  refine ct_int (by decide) (fun _ _ => Nat.le_of_ble_eq_true rfl) (fun X E R => ?_)
  rw [← h]
  show JF X o 4 0 [(0, .ref (xa X 85)), (1, .int p1), (2, .int p2)] [] σ (xB (fX10_isWare N σ p1) (fun y1 m2 => if y1 = 0 then some ((-2), m2) else xB (fX10_in N m2 p2.toInt64 0 1) (fun y4 m5 => if y4 = 0 then some ((-3), m5) else gd (xin 2 98) (if (m5 86 (2 : Int32).toNatClampNeg) = 0 then some ((-4), m5) else xB (fX10_shortestOf N m5 p1 (-1)) (fun y7 m8 => if y7 = (-1) then some ((-1), m8) else if p2 = 0 then some (y7, m8) else some ((m8 85 23), m8))))))
  refine j_aload_n (pc := 0) rfl 0 rfl E dX10_forAll_0 ?_
  refine j_iload_n (pc := 1) rfl 1 rfl E dX10_forAll_1 ?_
  refine JF.xb (fun y1 m2 h3 => ?_)
  refine j_callVi (pc := 2) (st := []) E (kX10_isWare h3) mv_X10_isWare rfl s_85 q_1242 [.int p1] rfl rfl rfl (by decide) (Nat.le_of_ble_eq_true rfl) dX10_forAll_2 ?_
  refine j_if_ne (pc := 5) (tgt := 11) E dX10_forAll_5 (by decide) ?_ ?_
  · refine j_bipush (pc := 8) (v := (-2)) (by decide) E dX10_forAll_8 ?_
    exact j_iret (pc := 10) E R dX10_forAll_10
  · refine j_iload_n (pc := 11) rfl 2 rfl E dX10_forAll_11 ?_
    refine j_i2l (pc := 12) E dX10_forAll_12 ?_
    refine j_lconst (pc := 13) (v := 0) (by decide) E dX10_forAll_13 ?_
    refine j_lconst (pc := 14) (v := 1) (by decide) E dX10_forAll_14 ?_
    refine JF.xb (fun y4 m5 h6 => ?_)
    refine j_callSi (pc := 15) (st := []) E (kX10_in h6) mv_X10_in q_1079 [.long p2.toInt64, .long 0, .long 1] rfl rfl rfl (by decide) (Nat.le_of_ble_eq_true rfl) dX10_forAll_15 ?_
    refine j_if_ne (pc := 18) (tgt := 24) E dX10_forAll_18 (by decide) ?_ ?_
    · refine j_bipush (pc := 21) (v := (-3)) (by decide) E dX10_forAll_21 ?_
      exact j_iret (pc := 23) E R dX10_forAll_23
    · refine j_aload_n (pc := 24) rfl 0 rfl E dX10_forAll_24 ?_
      refine j_get (pc := 25) E xuX10 rfl s_85 (k := 0) (by decide) q_1082 rfl (xflds_ref rfl) dX10_forAll_25 ?_
      refine j_iconst (pc := 28) (v := 2) (by decide) E dX10_forAll_28 ?_
      refine j_iald (pc := 29) E s_86 dX10_forAll_29 ?_
      refine j_if_ne (pc := 30) (tgt := 36) E dX10_forAll_30 (by decide) ?_ ?_
      · refine j_bipush (pc := 33) (v := (-4)) (by decide) E dX10_forAll_33 ?_
        exact j_iret (pc := 35) E R dX10_forAll_35
      · refine j_aload_n (pc := 36) rfl 0 rfl E dX10_forAll_36 ?_
        refine j_iload_n (pc := 37) rfl 1 rfl E dX10_forAll_37 ?_
        refine j_iconst (pc := 38) (v := (-1)) (by decide) E dX10_forAll_38 ?_
        refine JF.xb (fun y7 m8 h9 => ?_)
        refine j_callVi (pc := 39) (st := []) E (kX10_shortestOf h9) mv_X10_shortestOf rfl s_85 q_1369 [.int p1, .int (-1)] rfl rfl rfl (by decide) (Nat.le_of_ble_eq_true rfl) dX10_forAll_39 ?_
        refine j_istore_n (pc := 42) (lv1 := [(3, .int y7), (0, .ref (xa X 85)), (1, .int p1), (2, .int p2)]) E dX10_forAll_42 rfl (by decide) rfl ?_
        refine j_iload_n (pc := 43) rfl 0 rfl E dX10_forAll_43 ?_
        refine j_iconst (pc := 44) (v := (-1)) (by decide) E dX10_forAll_44 ?_
        refine j_icmp_ne (pc := 45) (tgt := 52) E dX10_forAll_45 (by decide) ?_ ?_
        · refine j_iconst (pc := 48) (v := (-1)) (by decide) E dX10_forAll_48 ?_
          refine j_goto (pc := 49) (tgt := 64) E dX10_forAll_49 (by decide) ?_
          exact j_iret (pc := 64) E R dX10_forAll_64
        · refine j_iload_n (pc := 52) rfl 3 rfl E dX10_forAll_52 ?_
          refine j_if_ne (pc := 53) (tgt := 60) E dX10_forAll_53 (by decide) ?_ ?_
          · refine j_iload_n (pc := 56) rfl 0 rfl E dX10_forAll_56 ?_
            refine j_goto (pc := 57) (tgt := 64) E dX10_forAll_57 (by decide) ?_
            exact j_iret (pc := 64) E R dX10_forAll_64
          · refine j_aload_n (pc := 60) rfl 1 rfl E dX10_forAll_60 ?_
            refine j_get (pc := 61) E xuX10 rfl s_85 (k := 23) (by decide) q_1105 rfl (xflds_int rfl) dX10_forAll_61 ?_
            exact j_iret (pc := 64) E R dX10_forAll_64
def fX10_hidden_L26 (N : Nat) (v1 : Int32) (v3 : Int32) (k96 : Int32 → XS → Option XO) : Nat → Int32 → Int32 → XS → Option XO
  | 0, _, _, _ => none
  | n + 1, v2, v4, σ => if v3 ≤ v4 then k96 v2 σ else xB (fX10_lays N σ v4 v1) (fun _ m8 => xB (fX10_isScanned N m8 94 v1) (fun y10 m11 => if y10 = 0 then if ((-1) : Int32) ≤ v2 then fX10_hidden_L26 N v1 v3 k96 n v2 (v4 + 1) m11 else fX10_hidden_L26 N v1 v3 k96 n (-1) (v4 + 1) m11 else xB (fX10_toldOf N m11 94 v1) (fun y13 m14 => xB (fX10_countedBy N m14 1 94 v1) (fun y16 m17 => if (y13 - y16) ≤ v2 then fX10_hidden_L26 N v1 v3 k96 n v2 (v4 + 1) m17 else fX10_hidden_L26 N v1 v3 k96 n (y13 - y16) (v4 + 1) m17))))
set_option maxRecDepth 100000 in
set_option maxHeartbeats 4000000 in
theorem lX10_hidden_L26 (N : Nat) (v1 : Int32) (v3 : Int32) (k96 : Int32 → XS → Option XO) {X : XC} {o : XO} (E : XE X cX10_hidden RX10 6 3 70) (R : XI X o cX10_hidden) (K96 : ∀ (v2 : Int32) (σ : XS), JF X o 6 96 [(2, .int v2)] [] σ (k96 v2 σ)) : ∀ (n : Nat) (v2 : Int32) (v4 : Int32) (σ : XS), JF X o 6 26 [(0, .ref (xa X 85)), (1, .int v1), (2, .int v2), (3, .int v3), (4, .int v4)] [] σ (fX10_hidden_L26 N v1 v3 k96 n v2 v4 σ) := by
  intro n
  induction n with
  | zero => intro v2 v4 σ; exact JF.none
  | succ n ih =>
    intro v2 v4 σ
    show JF X o 6 26 [(0, .ref (xa X 85)), (1, .int v1), (2, .int v2), (3, .int v3), (4, .int v4)] [] σ (if v3 ≤ v4 then k96 v2 σ else xB (fX10_lays N σ v4 v1) (fun _ m8 => xB (fX10_isScanned N m8 94 v1) (fun y10 m11 => if y10 = 0 then if ((-1) : Int32) ≤ v2 then fX10_hidden_L26 N v1 v3 k96 n v2 (v4 + 1) m11 else fX10_hidden_L26 N v1 v3 k96 n (-1) (v4 + 1) m11 else xB (fX10_toldOf N m11 94 v1) (fun y13 m14 => xB (fX10_countedBy N m14 1 94 v1) (fun y16 m17 => if (y13 - y16) ≤ v2 then fX10_hidden_L26 N v1 v3 k96 n v2 (v4 + 1) m17 else fX10_hidden_L26 N v1 v3 k96 n (y13 - y16) (v4 + 1) m17)))))
    refine j_iload (pc := 26) 4 rfl E dX10_hidden_26 ?_
    refine j_iload_n (pc := 28) rfl 3 rfl E dX10_hidden_28 ?_
    refine j_icmp_ge (pc := 29) (tgt := 96) E dX10_hidden_29 (by decide) ?_ ?_
    · refine JF.sub [2] rfl ?_
      exact K96 v2 σ
    · refine j_aload_n (pc := 32) rfl 0 rfl E dX10_hidden_32 ?_
      refine j_iload (pc := 33) 4 rfl E dX10_hidden_33 ?_
      refine j_iload_n (pc := 35) rfl 1 rfl E dX10_hidden_35 ?_
      refine JF.xb (fun y7 m8 h9 => ?_)
      refine j_callVv (pc := 36) (st := []) E (kX10_lays h9) mv_X10_lays rfl s_85 q_1377 [.int v4, .int v1] rfl rfl rfl (by decide) (Nat.le_of_ble_eq_true rfl) dX10_hidden_36 ?_
      refine j_aload_n (pc := 39) rfl 0 rfl E dX10_hidden_39 ?_
      refine j_aload_n (pc := 40) rfl 0 rfl E dX10_hidden_40 ?_
      refine j_get (pc := 41) E xuX10 rfl s_85 (k := 21) (by decide) q_1103 rfl (xflds_ref rfl) dX10_hidden_41 ?_
      refine j_iload_n (pc := 44) rfl 1 rfl E dX10_hidden_44 ?_
      refine JF.xb (fun y10 m11 h12 => ?_)
      refine j_callVi (pc := 45) (st := []) E (kX10_isScanned xr_94 h12) mv_X10_isScanned rfl s_85 q_1309 [.ref (xa X 94), .int v1] rfl rfl rfl (by decide) (Nat.le_of_ble_eq_true rfl) dX10_hidden_45 ?_
      refine j_if_eq (pc := 48) (tgt := 74) E dX10_hidden_48 (by decide) ?_ ?_
      · refine j_iconst (pc := 74) (v := (-1)) (by decide) E dX10_hidden_74 ?_
        refine j_istore (pc := 75) (lv1 := [(5, .int (-1)), (0, .ref (xa X 85)), (1, .int v1), (2, .int v2), (3, .int v3), (4, .int v4)]) E dX10_hidden_75 (by decide) rfl ?_
        refine j_iload (pc := 77) 0 rfl E dX10_hidden_77 ?_
        refine j_iload_n (pc := 79) rfl 3 rfl E dX10_hidden_79 ?_
        refine j_icmp_le (pc := 80) (tgt := 88) E dX10_hidden_80 (by decide) ?_ ?_
        · refine j_iload_n (pc := 88) rfl 3 rfl E dX10_hidden_88 ?_
          refine j_istore_n (pc := 89) (lv1 := [(2, .int v2), (5, .int (-1)), (0, .ref (xa X 85)), (1, .int v1), (3, .int v3), (4, .int v4)]) E dX10_hidden_89 rfl (by decide) rfl ?_
          refine j_iinc (pc := 90) (v := (v4 + 1)) (lv1 := [(4, .int (v4 + 1)), (2, .int v2), (5, .int (-1)), (0, .ref (xa X 85)), (1, .int v1), (3, .int v3)]) E dX10_hidden_90 5 rfl rfl (by decide) rfl ?_
          refine j_goto (pc := 93) (tgt := 26) E dX10_hidden_93 (by decide) ?_
          refine JF.sub [3, 4, 1, 5, 0] rfl ?_
          exact ih v2 (v4 + 1) m11
        · refine j_iload (pc := 83) 0 rfl E dX10_hidden_83 ?_
          refine j_goto (pc := 85) (tgt := 89) E dX10_hidden_85 (by decide) ?_
          refine j_istore_n (pc := 89) (lv1 := [(2, .int (-1)), (5, .int (-1)), (0, .ref (xa X 85)), (1, .int v1), (3, .int v3), (4, .int v4)]) E dX10_hidden_89 rfl (by decide) rfl ?_
          refine j_iinc (pc := 90) (v := (v4 + 1)) (lv1 := [(4, .int (v4 + 1)), (2, .int (-1)), (5, .int (-1)), (0, .ref (xa X 85)), (1, .int v1), (3, .int v3)]) E dX10_hidden_90 5 rfl rfl (by decide) rfl ?_
          refine j_goto (pc := 93) (tgt := 26) E dX10_hidden_93 (by decide) ?_
          refine JF.sub [3, 4, 1, 5, 0] rfl ?_
          exact ih (-1) (v4 + 1) m11
      · refine j_aload_n (pc := 51) rfl 0 rfl E dX10_hidden_51 ?_
        refine j_aload_n (pc := 52) rfl 0 rfl E dX10_hidden_52 ?_
        refine j_get (pc := 53) E xuX10 rfl s_85 (k := 21) (by decide) q_1103 rfl (xflds_ref rfl) dX10_hidden_53 ?_
        refine j_iload_n (pc := 56) rfl 1 rfl E dX10_hidden_56 ?_
        refine JF.xb (fun y13 m14 h15 => ?_)
        refine j_callVi (pc := 57) (st := []) E (kX10_toldOf xr_94 h15) mv_X10_toldOf rfl s_85 q_1281 [.ref (xa X 94), .int v1] rfl rfl rfl (by decide) (Nat.le_of_ble_eq_true rfl) dX10_hidden_57 ?_
        refine j_aload_n (pc := 60) rfl 0 rfl E dX10_hidden_60 ?_
        refine j_iconst (pc := 61) (v := 1) (by decide) E dX10_hidden_61 ?_
        refine j_aload_n (pc := 62) rfl 0 rfl E dX10_hidden_62 ?_
        refine j_get (pc := 63) E xuX10 rfl s_85 (k := 21) (by decide) q_1103 rfl (xflds_ref rfl) dX10_hidden_63 ?_
        refine j_iload_n (pc := 66) rfl 1 rfl E dX10_hidden_66 ?_
        refine JF.xb (fun y16 m17 h18 => ?_)
        refine j_callVi (pc := 67) (st := [.int y13]) E (kX10_countedBy xr_94 h18) mv_X10_countedBy rfl s_85 q_1277 [.int 1, .ref (xa X 94), .int v1] rfl rfl rfl (by decide) (Nat.le_of_ble_eq_true rfl) dX10_hidden_67 ?_
        refine j_isub (pc := 70) E dX10_hidden_70 ?_
        refine j_goto (pc := 71) (tgt := 75) E dX10_hidden_71 (by decide) ?_
        refine j_istore (pc := 75) (lv1 := [(5, .int (y13 - y16)), (0, .ref (xa X 85)), (1, .int v1), (2, .int v2), (3, .int v3), (4, .int v4)]) E dX10_hidden_75 (by decide) rfl ?_
        refine j_iload (pc := 77) 0 rfl E dX10_hidden_77 ?_
        refine j_iload_n (pc := 79) rfl 3 rfl E dX10_hidden_79 ?_
        refine j_icmp_le (pc := 80) (tgt := 88) E dX10_hidden_80 (by decide) ?_ ?_
        · refine j_iload_n (pc := 88) rfl 3 rfl E dX10_hidden_88 ?_
          refine j_istore_n (pc := 89) (lv1 := [(2, .int v2), (5, .int (y13 - y16)), (0, .ref (xa X 85)), (1, .int v1), (3, .int v3), (4, .int v4)]) E dX10_hidden_89 rfl (by decide) rfl ?_
          refine j_iinc (pc := 90) (v := (v4 + 1)) (lv1 := [(4, .int (v4 + 1)), (2, .int v2), (5, .int (y13 - y16)), (0, .ref (xa X 85)), (1, .int v1), (3, .int v3)]) E dX10_hidden_90 5 rfl rfl (by decide) rfl ?_
          refine j_goto (pc := 93) (tgt := 26) E dX10_hidden_93 (by decide) ?_
          refine JF.sub [3, 4, 1, 5, 0] rfl ?_
          exact ih v2 (v4 + 1) m17
        · refine j_iload (pc := 83) 0 rfl E dX10_hidden_83 ?_
          refine j_goto (pc := 85) (tgt := 89) E dX10_hidden_85 (by decide) ?_
          refine j_istore_n (pc := 89) (lv1 := [(2, .int (y13 - y16)), (5, .int (y13 - y16)), (0, .ref (xa X 85)), (1, .int v1), (3, .int v3), (4, .int v4)]) E dX10_hidden_89 rfl (by decide) rfl ?_
          refine j_iinc (pc := 90) (v := (v4 + 1)) (lv1 := [(4, .int (v4 + 1)), (2, .int (y13 - y16)), (5, .int (y13 - y16)), (0, .ref (xa X 85)), (1, .int v1), (3, .int v3)]) E dX10_hidden_90 5 rfl rfl (by decide) rfl ?_
          refine j_goto (pc := 93) (tgt := 26) E dX10_hidden_93 (by decide) ?_
          refine JF.sub [3, 4, 1, 5, 0] rfl ?_
          exact ih (y13 - y16) (v4 + 1) m17
def fX10_hidden (N : Nat) (σ : XS) (p1 : Int32) : Option XO := xB (fX10_in N σ p1.toInt64 1 4) (fun y1 m2 => if y1 = 0 then some ((-3), m2) else xB (fX10_ways N m2 p1) (fun y4 m5 => fX10_hidden_L26 N p1 y4 (fun x19 m20 => some (x19, m20)) N (-1) 0 m5))
set_option maxRecDepth 100000 in
set_option maxHeartbeats 4000000 in
theorem kX10_hidden {N : Nat} {σ : XS} {p1 : Int32} {o : XO} (h : fX10_hidden N σ p1 = some o) : CtI yX10_hidden cX10_hidden 6 (some .int) 3 70 (fun Am ad => [.ref (Am 85), .int p1]) σ o := by
  refine ct_int (by decide) (fun _ _ => Nat.le_of_ble_eq_true rfl) (fun X E R => ?_)
  rw [← h]
  show JF X o 6 0 [(0, .ref (xa X 85)), (1, .int p1)] [] σ (xB (fX10_in N σ p1.toInt64 1 4) (fun y1 m2 => if y1 = 0 then some ((-3), m2) else xB (fX10_ways N m2 p1) (fun y4 m5 => fX10_hidden_L26 N p1 y4 (fun x19 m20 => some (x19, m20)) N (-1) 0 m5)))
  refine j_iload_n (pc := 0) rfl 1 rfl E dX10_hidden_0 ?_
  refine j_i2l (pc := 1) E dX10_hidden_1 ?_
  refine j_lconst (pc := 2) (v := 1) (by decide) E dX10_hidden_2 ?_
  refine j_ldc2 (pc := 3) (v := 4) E q_1268 dX10_hidden_3 ?_
  refine JF.xb (fun y1 m2 h3 => ?_)
  refine j_callSi (pc := 6) (st := []) E (kX10_in h3) mv_X10_in q_1079 [.long p1.toInt64, .long 1, .long 4] rfl rfl rfl (by decide) (Nat.le_of_ble_eq_true rfl) dX10_hidden_6 ?_
  refine j_if_ne (pc := 9) (tgt := 15) E dX10_hidden_9 (by decide) ?_ ?_
  · refine j_bipush (pc := 12) (v := (-3)) (by decide) E dX10_hidden_12 ?_
    exact j_iret (pc := 14) E R dX10_hidden_14
  · refine j_iconst (pc := 15) (v := (-1)) (by decide) E dX10_hidden_15 ?_
    refine j_istore_n (pc := 16) (lv1 := [(2, .int (-1)), (0, .ref (xa X 85)), (1, .int p1)]) E dX10_hidden_16 rfl (by decide) rfl ?_
    refine j_aload_n (pc := 17) rfl 1 rfl E dX10_hidden_17 ?_
    refine j_iload_n (pc := 18) rfl 2 rfl E dX10_hidden_18 ?_
    refine JF.xb (fun y4 m5 h6 => ?_)
    refine j_callVi (pc := 19) (st := []) E (kX10_ways h6) mv_X10_ways rfl s_85 q_1373 [.int p1] rfl rfl rfl (by decide) (Nat.le_of_ble_eq_true rfl) dX10_hidden_19 ?_
    refine j_istore_n (pc := 22) (lv1 := [(3, .int y4), (2, .int (-1)), (0, .ref (xa X 85)), (1, .int p1)]) E dX10_hidden_22 rfl (by decide) rfl ?_
    refine j_iconst (pc := 23) (v := 0) (by decide) E dX10_hidden_23 ?_
    refine j_istore (pc := 24) (lv1 := [(4, .int 0), (3, .int y4), (2, .int (-1)), (0, .ref (xa X 85)), (1, .int p1)]) E dX10_hidden_24 (by decide) rfl ?_
    refine JF.sub [3, 4, 2, 1, 0] rfl ?_
    refine lX10_hidden_L26 N p1 y4 _ E R (fun x19 m20 => ?_) N (-1) 0 m5
    · refine j_iload_n (pc := 96) rfl 0 rfl E dX10_hidden_96 ?_
      exact j_iret (pc := 97) E R dX10_hidden_97
