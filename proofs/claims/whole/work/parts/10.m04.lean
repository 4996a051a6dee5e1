def fX7_read_L36 (N : Nat) (k54 : XS → Option XO) (k81 : XS → Option XO) (k96 : XS → Option XO) (k107 : XS → Option XO) : Nat → Int32 → XS → Option XO
  | 0, _, _ => none
  | n + 1, v2, σ => if 14 ≤ v2 then k107 σ else xB (fX7_goOn N σ) (fun _ m12 => xB (fX7_readClause N m12 v2) (fun y14 m15 => if y14 = 0 then k54 m15 else xLet (xUp m15 11 4 (v2 + 1)) (fun m17 => xB (fX7_goOn N m17) (fun _ m20 => if (m20 11 5) < (m20 11 3) then xB (fX7_letterAt N m20 (m20 11 5)) (fun y22 m23 => if y22 = 59 then fX7_read_L36 N k54 k81 k96 k107 n (v2 + 1) m23 else k96 m23) else k81 m20))))
set_option maxRecDepth 100000 in
set_option maxHeartbeats 4000000 in
theorem lX7_read_L36 (N : Nat) (k54 : XS → Option XO) (k81 : XS → Option XO) (k96 : XS → Option XO) (k107 : XS → Option XO) {X : XC} {o : XO} (E : XE X cX7_read RX7 3 7 189) (R : XI X o cX7_read) (K54 : ∀ (σ : XS), JF X o 3 54 [(0, .ref (xa X 11))] [] σ (k54 σ)) (K81 : ∀ (σ : XS), JF X o 3 81 [] [] σ (k81 σ)) (K96 : ∀ (σ : XS), JF X o 3 96 [(0, .ref (xa X 11))] [] σ (k96 σ)) (K107 : ∀ (σ : XS), JF X o 3 107 [(0, .ref (xa X 11))] [] σ (k107 σ)) : ∀ (n : Nat) (v2 : Int32) (σ : XS), JF X o 3 36 [(0, .ref (xa X 11)), (2, .int v2)] [] σ (fX7_read_L36 N k54 k81 k96 k107 n v2 σ) := by
  intro n
  induction n with
  | zero => intro v2 σ; exact JF.none
  | succ n ih =>
    intro v2 σ
    show JF X o 3 36 [(0, .ref (xa X 11)), (2, .int v2)] [] σ (if 14 ≤ v2 then k107 σ else xB (fX7_goOn N σ) (fun _ m12 => xB (fX7_readClause N m12 v2) (fun y14 m15 => if y14 = 0 then k54 m15 else xLet (xUp m15 11 4 (v2 + 1)) (fun m17 => xB (fX7_goOn N m17) (fun _ m20 => if (m20 11 5) < (m20 11 3) then xB (fX7_letterAt N m20 (m20 11 5)) (fun y22 m23 => if y22 = 59 then fX7_read_L36 N k54 k81 k96 k107 n (v2 + 1) m23 else k96 m23) else k81 m20)))))
    refine j_iload_n (pc := 36) rfl 1 rfl E dX7_read_36 ?_
    refine j_bipush (pc := 37) (v := 14) (by decide) E dX7_read_37 ?_
    refine j_icmp_ge (pc := 39) (tgt := 107) E dX7_read_39 (by decide) ?_ ?_
    · refine JF.sub [0] rfl ?_
      exact K107  σ
    · refine j_aload_n (pc := 42) rfl 0 rfl E dX7_read_42 ?_
      refine JF.xb (fun y11 m12 h13 => ?_)
      refine j_callVv (pc := 43) (st := []) E (kX7_goOn h13) mv_X7_goOn rfl s_11 q_444 [] rfl rfl rfl (by decide) (Nat.le_of_ble_eq_true rfl) dX7_read_43 ?_
      refine j_aload_n (pc := 46) rfl 0 rfl E dX7_read_46 ?_
      refine j_iload_n (pc := 47) rfl 1 rfl E dX7_read_47 ?_
      refine JF.xb (fun y14 m15 h16 => ?_)
      refine j_callVi (pc := 48) (st := []) E (kX7_readClause h16) mv_X7_readClause rfl s_11 q_456 [.int v2] rfl rfl rfl (by decide) (Nat.le_of_ble_eq_true rfl) dX7_read_48 ?_
      refine j_if_ne (pc := 51) (tgt := 59) E dX7_read_51 (by decide) ?_ ?_
      · refine JF.sub [0] rfl ?_
        exact K54  m15
      · refine j_aload_n (pc := 59) rfl 0 rfl E dX7_read_59 ?_
        refine j_iload_n (pc := 60) rfl 1 rfl E dX7_read_60 ?_
        refine j_iconst (pc := 61) (v := 1) (by decide) E dX7_read_61 ?_
        refine j_iadd (pc := 62) E dX7_read_62 ?_
        refine JF.xlet (fun m17 e18 => ?_)
        refine j_put (pc := 63) E xuX7 tyX7 tyX7_ok nmX7 rfl s_11 rfl (k := 4) (by decide) q_176 rfl rfl (ty := .int) (by decide +kernel) rfl rfl dX7_read_63 e18 ?_
        refine j_aload_n (pc := 66) rfl 0 rfl E dX7_read_66 ?_
        refine JF.xb (fun y19 m20 h21 => ?_)
        refine j_callVv (pc := 67) (st := []) E (kX7_goOn h21) mv_X7_goOn rfl s_11 q_444 [] rfl rfl rfl (by decide) (Nat.le_of_ble_eq_true rfl) dX7_read_67 ?_
        refine j_aload_n (pc := 70) rfl 0 rfl E dX7_read_70 ?_
        refine j_get (pc := 71) E xuX7 rfl s_11 (k := 5) (by decide) q_178 rfl (xflds_int rfl) dX7_read_71 ?_
        refine j_aload_n (pc := 74) rfl 0 rfl E dX7_read_74 ?_
        refine j_get (pc := 75) E xuX7 rfl s_11 (k := 3) (by decide) q_174 rfl (xflds_int rfl) dX7_read_75 ?_
        refine j_icmp_lt (pc := 78) (tgt := 83) E dX7_read_78 (by decide) ?_ ?_
        · refine j_aload_n (pc := 83) rfl 0 rfl E dX7_read_83 ?_
          refine j_aload_n (pc := 84) rfl 0 rfl E dX7_read_84 ?_
          refine j_get (pc := 85) E xuX7 rfl s_11 (k := 5) (by decide) q_178 rfl (xflds_int rfl) dX7_read_85 ?_
          refine JF.xb (fun y22 m23 h24 => ?_)
          refine j_callVi (pc := 88) (st := []) E (kX7_letterAt h24) mv_X7_letterAt rfl s_11 q_448 [.int (m20 11 5)] rfl rfl rfl (by decide) (Nat.le_of_ble_eq_true rfl) dX7_read_88 ?_
          refine j_bipush (pc := 91) (v := 59) (by decide) E dX7_read_91 ?_
          refine j_icmp_eq (pc := 93) (tgt := 101) E dX7_read_93 (by decide) ?_ ?_
          · refine j_iinc (pc := 101) (v := (v2 + 1)) (lv1 := [(2, .int (v2 + 1)), (0, .ref (xa X 11))]) E dX7_read_101 1 rfl rfl (by decide) rfl ?_
            refine j_goto (pc := 104) (tgt := 36) E dX7_read_104 (by decide) ?_
            refine JF.sub [1, 0] rfl ?_
            exact ih (v2 + 1) m23
          · refine JF.sub [0] rfl ?_
            exact K96  m23
        · refine JF.sub [] rfl ?_
          exact K81  m20
def fX7_read (N : Nat) (σ : XS) : Option XO := xLet (xUp σ 11 7 (σ 1 9)) (fun m1 => xLet (xUp m1 11 8 (m1 1 10)) (fun m3 => xLet (xUp m3 11 9 (m3 1 11)) (fun m5 => xLet (xUp m5 11 4 0) (fun m7 => xLet (xUp m7 11 6 0) (fun m9 => fX7_read_L36 N (fun m25 => some ((m25 11 5), m25)) (fun m26 => some ((-1), m26)) (fun m27 => some ((m27 11 5), m27)) (fun m28 => some ((m28 11 5), m28)) N 0 m9)))))
set_option maxRecDepth 100000 in
set_option maxHeartbeats 4000000 in
theorem kX7_read {N : Nat} {σ : XS} {o : XO} (h : fX7_read N σ = some o) : CtI yX7_read cX7_read 3 (some .int) 7 189 (fun Am ad => [.ref (Am 11), .ref (Am 1)]) σ o := by
  refine ct_int (by decide) (fun _ _ => Nat.le_of_ble_eq_true rfl) (fun X E R => ?_)
  rw [← h]
  show JF X o 3 0 [(0, .ref (xa X 11)), (1, .ref (xa X 1))] [] σ (xLet (xUp σ 11 7 (σ 1 9)) (fun m1 => xLet (xUp m1 11 8 (m1 1 10)) (fun m3 => xLet (xUp m3 11 9 (m3 1 11)) (fun m5 => xLet (xUp m5 11 4 0) (fun m7 => xLet (xUp m7 11 6 0) (fun m9 => fX7_read_L36 N (fun m25 => some ((m25 11 5), m25)) (fun m26 => some ((-1), m26)) (fun m27 => some ((m27 11 5), m27)) (fun m28 => some ((m28 11 5), m28)) N 0 m9))))))
  refine j_aload_n (pc := 0) rfl 0 rfl E dX7_read_0 ?_
  refine j_aload_n (pc := 1) rfl 1 rfl E dX7_read_1 ?_
  refine j_get (pc := 2) E xuX8 rfl s_1 (k := 9) (by decide) q_119 rfl (xflds_int rfl) dX7_read_2 ?_
  refine JF.xlet (fun m1 e2 => ?_)
  refine j_put (pc := 5) E xuX7 tyX7 tyX7_ok nmX7 rfl s_11 rfl (k := 7) (by decide) q_180 rfl rfl (ty := .int) (by decide +kernel) rfl rfl dX7_read_5 e2 ?_
  refine j_aload_n (pc := 8) rfl 0 rfl E dX7_read_8 ?_
  refine j_aload_n (pc := 9) rfl 1 rfl E dX7_read_9 ?_
  refine j_get (pc := 10) E xuX8 rfl s_1 (k := 10) (by decide) q_125 rfl (xflds_int rfl) dX7_read_10 ?_
  refine JF.xlet (fun m3 e4 => ?_)
  refine j_put (pc := 13) E xuX7 tyX7 tyX7_ok nmX7 rfl s_11 rfl (k := 8) (by decide) q_181 rfl rfl (ty := .int) (by decide +kernel) rfl rfl dX7_read_13 e4 ?_
  refine j_aload_n (pc := 16) rfl 0 rfl E dX7_read_16 ?_
  refine j_aload_n (pc := 17) rfl 1 rfl E dX7_read_17 ?_
  refine j_get (pc := 18) E xuX8 rfl s_1 (k := 11) (by decide) q_130 rfl (xflds_int rfl) dX7_read_18 ?_
  refine JF.xlet (fun m5 e6 => ?_)
  refine j_put (pc := 21) E xuX7 tyX7 tyX7_ok nmX7 rfl s_11 rfl (k := 9) (by decide) q_182 rfl rfl (ty := .int) (by decide +kernel) rfl rfl dX7_read_21 e6 ?_
  refine j_aload_n (pc := 24) rfl 0 rfl E dX7_read_24 ?_
  refine j_iconst (pc := 25) (v := 0) (by decide) E dX7_read_25 ?_
  refine JF.xlet (fun m7 e8 => ?_)
  refine j_put (pc := 26) E xuX7 tyX7 tyX7_ok nmX7 rfl s_11 rfl (k := 4) (by decide) q_176 rfl rfl (ty := .int) (by decide +kernel) rfl rfl dX7_read_26 e8 ?_
  refine j_aload_n (pc := 29) rfl 0 rfl E dX7_read_29 ?_
  refine j_iconst (pc := 30) (v := 0) (by decide) E dX7_read_30 ?_
  refine JF.xlet (fun m9 e10 => ?_)
  refine j_put (pc := 31) E xuX7 tyX7 tyX7_ok nmX7 rfl s_11 rfl (k := 6) (by decide) q_179 rfl rfl (ty := .int) (by decide +kernel) rfl rfl dX7_read_31 e10 ?_
  refine j_iconst (pc := 34) (v := 0) (by decide) E dX7_read_34 ?_
  refine j_istore_n (pc := 35) (lv1 := [(2, .int 0), (0, .ref (xa X 11)), (1, .ref (xa X 1))]) E dX7_read_35 rfl (by decide) rfl ?_
  refine JF.sub [1, 0] rfl ?_
  refine lX7_read_L36 N _ _ _ _ E R (fun m25 => ?_) (fun m26 => ?_) (fun m27 => ?_) (fun m28 => ?_) N 0 m9
  · refine j_aload_n (pc := 54) rfl 0 rfl E dX7_read_54 ?_
    refine j_get (pc := 55) E xuX7 rfl s_11 (k := 5) (by decide) q_178 rfl (xflds_int rfl) dX7_read_55 ?_
    exact j_iret (pc := 58) E R dX7_read_58
  · refine j_iconst (pc := 81) (v := (-1)) (by decide) E dX7_read_81 ?_
    exact j_iret (pc := 82) E R dX7_read_82
  · refine j_aload_n (pc := 96) rfl 0 rfl E dX7_read_96 ?_
    refine j_get (pc := 97) E xuX7 rfl s_11 (k := 5) (by decide) q_178 rfl (xflds_int rfl) dX7_read_97 ?_
    exact j_iret (pc := 100) E R dX7_read_100
  · refine j_aload_n (pc := 107) rfl 0 rfl E dX7_read_107 ?_
    refine j_get (pc := 108) E xuX7 rfl s_11 (k := 5) (by decide) q_178 rfl (xflds_int rfl) dX7_read_108 ?_
    exact j_iret (pc := 111) E R dX7_read_111
def fX8_addClerk (N : Nat) (σ : XS) (p1 : Int32) : Option XO := if (σ 1 11) < 3 then xLet (xUp σ 9 (σ 1 11).toNatClampNeg p1) (fun m1 => gd (xin (σ 1 11) 3) (xLet (xUp m1 1 11 ((m1 1 11) + 1)) (fun m4 => some (0, m4)))) else some (0, σ)
set_option maxRecDepth 100000 in
set_option maxHeartbeats 4000000 in
theorem kX8_addClerk {N : Nat} {σ : XS} {p1 : Int32} {o : XO} (h : fX8_addClerk N σ p1 = some o) : CtV yX8_addClerk cX8_addClerk 2 none 0 0 (fun Am ad => [.ref (Am 1), .int p1]) σ o := by
  refine ct_void (by decide) (fun _ _ => Nat.le_of_ble_eq_true rfl) (fun X E R => ?_)
  rw [← h]
  show JF X o 2 0 [(0, .ref (xa X 1)), (1, .int p1)] [] σ (if (σ 1 11) < 3 then xLet (xUp σ 9 (σ 1 11).toNatClampNeg p1) (fun m1 => gd (xin (σ 1 11) 3) (xLet (xUp m1 1 11 ((m1 1 11) + 1)) (fun m4 => some (0, m4)))) else some (0, σ))
  refine j_aload_n (pc := 0) rfl 0 rfl E dX8_addClerk_0 ?_
  refine j_get (pc := 1) E xuX8 rfl s_1 (k := 11) (by decide) q_128 rfl (xflds_int rfl) dX8_addClerk_1 ?_
  refine j_iconst (pc := 4) (v := 3) (by decide) E dX8_addClerk_4 ?_
  refine j_icmp_lt (pc := 5) (tgt := 9) E dX8_addClerk_5 (by decide) ?_ ?_
  · refine j_aload_n (pc := 9) rfl 0 rfl E dX8_addClerk_9 ?_
    refine j_get (pc := 10) E xuX8 rfl s_1 (k := 7) (by decide) q_113 rfl (xflds_ref rfl) dX8_addClerk_10 ?_
    refine j_aload_n (pc := 13) rfl 0 rfl E dX8_addClerk_13 ?_
    refine j_get (pc := 14) E xuX8 rfl s_1 (k := 11) (by decide) q_128 rfl (xflds_int rfl) dX8_addClerk_14 ?_
    refine j_iload_n (pc := 17) rfl 1 rfl E dX8_addClerk_17 ?_
    refine JF.xlet (fun m1 e2 => ?_)
    refine j_iast (pc := 18) E s_9 dX8_addClerk_18 e2 ?_
    refine j_aload_n (pc := 19) rfl 0 rfl E dX8_addClerk_19 ?_
    refine j_dup (pc := 20) rfl E dX8_addClerk_20 ?_
    refine j_get (pc := 21) E xuX8 rfl s_1 (k := 11) (by decide) q_128 rfl (xflds_int rfl) dX8_addClerk_21 ?_
    refine j_iconst (pc := 24) (v := 1) (by decide) E dX8_addClerk_24 ?_
    refine j_iadd (pc := 25) E dX8_addClerk_25 ?_
    refine JF.xlet (fun m4 e5 => ?_)
    refine j_put (pc := 26) E xuX8 tyX8 tyX8_ok nmX8 rfl s_1 rfl (k := 11) (by decide) q_128 rfl rfl (ty := .int) (by decide +kernel) rfl rfl dX8_addClerk_26 e5 ?_
    exact j_vret (pc := 29) E R dX8_addClerk_29
  · exact j_vret (pc := 8) E R dX8_addClerk_8
def fX8_addWare (N : Nat) (σ : XS) (p1 : Int32) (p2 : Int32) : Option XO := if (σ 1 10) < 6 then xLet (xUp σ 7 (σ 1 10).toNatClampNeg p1) (fun m1 => gd (xin (σ 1 10) 6) (xLet (xUp m1 8 (m1 1 10).toNatClampNeg p2) (fun m4 => gd (xin (m1 1 10) 6) (xLet (xUp m4 1 10 ((m4 1 10) + 1)) (fun m7 => some (0, m7)))))) else some (0, σ)
set_option maxRecDepth 100000 in
set_option maxHeartbeats 4000000 in
theorem kX8_addWare {N : Nat} {σ : XS} {p1 : Int32} {p2 : Int32} {o : XO} (h : fX8_addWare N σ p1 p2 = some o) : CtV yX8_addWare cX8_addWare 3 none 0 0 (fun Am ad => [.ref (Am 1), .int p1, .int p2]) σ o := by
  refine ct_void (by decide) (fun _ _ => Nat.le_of_ble_eq_true rfl) (fun X E R => ?_)
  rw [← h]
  show JF X o 3 0 [(0, .ref (xa X 1)), (1, .int p1), (2, .int p2)] [] σ (if (σ 1 10) < 6 then xLet (xUp σ 7 (σ 1 10).toNatClampNeg p1) (fun m1 => gd (xin (σ 1 10) 6) (xLet (xUp m1 8 (m1 1 10).toNatClampNeg p2) (fun m4 => gd (xin (m1 1 10) 6) (xLet (xUp m4 1 10 ((m4 1 10) + 1)) (fun m7 => some (0, m7)))))) else some (0, σ))
  refine j_aload_n (pc := 0) rfl 0 rfl E dX8_addWare_0 ?_
  refine j_get (pc := 1) E xuX8 rfl s_1 (k := 10) (by decide) q_124 rfl (xflds_int rfl) dX8_addWare_1 ?_
  refine j_bipush (pc := 4) (v := 6) (by decide) E dX8_addWare_4 ?_
  refine j_icmp_lt (pc := 6) (tgt := 10) E dX8_addWare_6 (by decide) ?_ ?_
  · refine j_aload_n (pc := 10) rfl 0 rfl E dX8_addWare_10 ?_
    refine j_get (pc := 11) E xuX8 rfl s_1 (k := 5) (by decide) q_106 rfl (xflds_ref rfl) dX8_addWare_11 ?_
    refine j_aload_n (pc := 14) rfl 0 rfl E dX8_addWare_14 ?_
    refine j_get (pc := 15) E xuX8 rfl s_1 (k := 10) (by decide) q_124 rfl (xflds_int rfl) dX8_addWare_15 ?_
    refine j_iload_n (pc := 18) rfl 1 rfl E dX8_addWare_18 ?_
    refine JF.xlet (fun m1 e2 => ?_)
    refine j_iast (pc := 19) E s_7 dX8_addWare_19 e2 ?_
    refine j_aload_n (pc := 20) rfl 0 rfl E dX8_addWare_20 ?_
    refine j_get (pc := 21) E xuX8 rfl s_1 (k := 6) (by decide) q_110 rfl (xflds_ref rfl) dX8_addWare_21 ?_
    refine j_aload_n (pc := 24) rfl 0 rfl E dX8_addWare_24 ?_
    refine j_get (pc := 25) E xuX8 rfl s_1 (k := 10) (by decide) q_124 rfl (xflds_int rfl) dX8_addWare_25 ?_
    refine j_iload_n (pc := 28) rfl 2 rfl E dX8_addWare_28 ?_
    refine JF.xlet (fun m4 e5 => ?_)
    refine j_iast (pc := 29) E s_8 dX8_addWare_29 e5 ?_
    refine j_aload_n (pc := 30) rfl 0 rfl E dX8_addWare_30 ?_
    refine j_dup (pc := 31) rfl E dX8_addWare_31 ?_
    refine j_get (pc := 32) E xuX8 rfl s_1 (k := 10) (by decide) q_124 rfl (xflds_int rfl) dX8_addWare_32 ?_
    refine j_iconst (pc := 35) (v := 1) (by decide) E dX8_addWare_35 ?_
    refine j_iadd (pc := 36) E dX8_addWare_36 ?_
    refine JF.xlet (fun m7 e8 => ?_)
    refine j_put (pc := 37) E xuX8 tyX8 tyX8_ok nmX8 rfl s_1 rfl (k := 10) (by decide) q_124 rfl rfl (ty := .int) (by decide +kernel) rfl rfl dX8_addWare_37 e8 ?_
    exact j_vret (pc := 40) E R dX8_addWare_40
  · exact j_vret (pc := 9) E R dX8_addWare_9
def fX8_addWord (N : Nat) (σ : XS) (p1 : Int32) (p2 : Int32) (p3 : Int32) (p4 : Int32) : Option XO := if (σ 1 9) < 9 then xLet (xUp σ 2 (σ 1 9).toNatClampNeg p1) (fun m1 => gd (xin (σ 1 9) 9) (xLet (xUp m1 3 (m1 1 9).toNatClampNeg p2) (fun m4 => gd (xin (m1 1 9) 9) (xLet (xUp m4 4 (m4 1 9).toNatClampNeg p3) (fun m7 => gd (xin (m4 1 9) 9) (xLet (xUp m7 5 (m7 1 9).toNatClampNeg p4) (fun m10 => gd (xin (m7 1 9) 9) (xLet (xUp m10 1 9 ((m10 1 9) + 1)) (fun m13 => some (0, m13)))))))))) else some (0, σ)
set_option maxRecDepth 100000 in
set_option maxHeartbeats 4000000 in
theorem kX8_addWord {N : Nat} {σ : XS} {p1 : Int32} {p2 : Int32} {p3 : Int32} {p4 : Int32} {o : XO} (h : fX8_addWord N σ p1 p2 p3 p4 = some o) : CtV yX8_addWord cX8_addWord 5 none 0 0 (fun Am ad => [.ref (Am 1), .int p1, .int p2, .int p3, .int p4]) σ o := by
  refine ct_void (by decide) (fun _ _ => Nat.le_of_ble_eq_true rfl) (fun X E R => ?_)
  rw [← h]
  show JF X o 5 0 [(0, .ref (xa X 1)), (1, .int p1), (2, .int p2), (3, .int p3), (4, .int p4)] [] σ (if (σ 1 9) < 9 then xLet (xUp σ 2 (σ 1 9).toNatClampNeg p1) (fun m1 => gd (xin (σ 1 9) 9) (xLet (xUp m1 3 (m1 1 9).toNatClampNeg p2) (fun m4 => gd (xin (m1 1 9) 9) (xLet (xUp m4 4 (m4 1 9).toNatClampNeg p3) (fun m7 => gd (xin (m4 1 9) 9) (xLet (xUp m7 5 (m7 1 9).toNatClampNeg p4) (fun m10 => gd (xin (m7 1 9) 9) (xLet (xUp m10 1 9 ((m10 1 9) + 1)) (fun m13 => some (0, m13)))))))))) else some (0, σ))
  refine j_aload_n (pc := 0) rfl 0 rfl E dX8_addWord_0 ?_
  refine j_get (pc := 1) E xuX8 rfl s_1 (k := 9) (by decide) q_117 rfl (xflds_int rfl) dX8_addWord_1 ?_
  refine j_bipush (pc := 4) (v := 9) (by decide) E dX8_addWord_4 ?_
  refine j_icmp_lt (pc := 6) (tgt := 10) E dX8_addWord_6 (by decide) ?_ ?_
  · refine j_aload_n (pc := 10) rfl 0 rfl E dX8_addWord_10 ?_
    refine j_get (pc := 11) E xuX8 rfl s_1 (k := 0) (by decide) q_92 rfl (xflds_ref rfl) dX8_addWord_11 ?_
    refine j_aload_n (pc := 14) rfl 0 rfl E dX8_addWord_14 ?_
    refine j_get (pc := 15) E xuX8 rfl s_1 (k := 9) (by decide) q_117 rfl (xflds_int rfl) dX8_addWord_15 ?_
    refine j_iload_n (pc := 18) rfl 1 rfl E dX8_addWord_18 ?_
    refine JF.xlet (fun m1 e2 => ?_)
    refine j_iast (pc := 19) E s_2 dX8_addWord_19 e2 ?_
    refine j_aload_n (pc := 20) rfl 0 rfl E dX8_addWord_20 ?_
    refine j_get (pc := 21) E xuX8 rfl s_1 (k := 1) (by decide) q_96 rfl (xflds_ref rfl) dX8_addWord_21 ?_
    refine j_aload_n (pc := 24) rfl 0 rfl E dX8_addWord_24 ?_
    refine j_get (pc := 25) E xuX8 rfl s_1 (k := 9) (by decide) q_117 rfl (xflds_int rfl) dX8_addWord_25 ?_
    refine j_iload_n (pc := 28) rfl 2 rfl E dX8_addWord_28 ?_
    refine JF.xlet (fun m4 e5 => ?_)
    refine j_iast (pc := 29) E s_3 dX8_addWord_29 e5 ?_
    refine j_aload_n (pc := 30) rfl 0 rfl E dX8_addWord_30 ?_
    refine j_get (pc := 31) E xuX8 rfl s_1 (k := 2) (by decide) q_101 rfl (xflds_ref rfl) dX8_addWord_31 ?_
    refine j_aload_n (pc := 34) rfl 0 rfl E dX8_addWord_34 ?_
    refine j_get (pc := 35) E xuX8 rfl s_1 (k := 9) (by decide) q_117 rfl (xflds_int rfl) dX8_addWord_35 ?_
    refine j_iload_n (pc := 38) rfl 3 rfl E dX8_addWord_38 ?_
    refine JF.xlet (fun m7 e8 => ?_)
    refine j_iast (pc := 39) E s_4 dX8_addWord_39 e8 ?_
    refine j_aload_n (pc := 40) rfl 0 rfl E dX8_addWord_40 ?_
    refine j_get (pc := 41) E xuX8 rfl s_1 (k := 3) (by decide) q_103 rfl (xflds_ref rfl) dX8_addWord_41 ?_
    refine j_aload_n (pc := 44) rfl 0 rfl E dX8_addWord_44 ?_
    refine j_get (pc := 45) E xuX8 rfl s_1 (k := 9) (by decide) q_117 rfl (xflds_int rfl) dX8_addWord_45 ?_
    refine j_iload (pc := 48) 4 rfl E dX8_addWord_48 ?_
    refine JF.xlet (fun m10 e11 => ?_)
    refine j_iast (pc := 50) E s_5 dX8_addWord_50 e11 ?_
    refine j_aload_n (pc := 51) rfl 0 rfl E dX8_addWord_51 ?_
    refine j_dup (pc := 52) rfl E dX8_addWord_52 ?_
    refine j_get (pc := 53) E xuX8 rfl s_1 (k := 9) (by decide) q_117 rfl (xflds_int rfl) dX8_addWord_53 ?_
    refine j_iconst (pc := 56) (v := 1) (by decide) E dX8_addWord_56 ?_
    refine j_iadd (pc := 57) E dX8_addWord_57 ?_
    refine JF.xlet (fun m13 e14 => ?_)
    refine j_put (pc := 58) E xuX8 tyX8 tyX8_ok nmX8 rfl s_1 rfl (k := 9) (by decide) q_117 rfl rfl (ty := .int) (by decide +kernel) rfl rfl dX8_addWord_58 e14 ?_
    exact j_vret (pc := 61) E R dX8_addWord_61
  · exact j_vret (pc := 9) E R dX8_addWord_9
def fX8_reset (N : Nat) (σ : XS) : Option XO := xLet (xUp σ 1 9 0) (fun m1 => xLet (xUp m1 1 10 0) (fun m3 => xLet (xUp m3 1 11 0) (fun m5 => xLet (xUp m5 1 12 0) (fun m7 => xB (fJ7_fill_53178 N m7 6 0) (fun _ m10 => xB (fJ7_fill_53178 N m10 10 3) (fun _ m13 => some (0, m13)))))))
set_option maxRecDepth 100000 in
set_option maxHeartbeats 4000000 in
theorem kX8_reset {N : Nat} {σ : XS} {o : XO} (h : fX8_reset N σ = some o) : CtV yX8_reset cX8_reset 1 none 1 23 (fun Am ad => [.ref (Am 1)]) σ o := by
  refine ct_void (by decide) (fun _ _ => Nat.le_of_ble_eq_true rfl) (fun X E R => ?_)
  rw [← h]
  show JF X o 1 0 [(0, .ref (xa X 1))] [] σ (xLet (xUp σ 1 9 0) (fun m1 => xLet (xUp m1 1 10 0) (fun m3 => xLet (xUp m3 1 11 0) (fun m5 => xLet (xUp m5 1 12 0) (fun m7 => xB (fJ7_fill_53178 N m7 6 0) (fun _ m10 => xB (fJ7_fill_53178 N m10 10 3) (fun _ m13 => some (0, m13))))))))
  refine j_aload_n (pc := 0) rfl 0 rfl E dX8_reset_0 ?_
  refine j_iconst (pc := 1) (v := 0) (by decide) E dX8_reset_1 ?_
  refine JF.xlet (fun m1 e2 => ?_)
  refine j_put (pc := 2) E xuX8 tyX8 tyX8_ok nmX8 rfl s_1 rfl (k := 9) (by decide) q_117 rfl rfl (ty := .int) (by decide +kernel) rfl rfl dX8_reset_2 e2 ?_
  refine j_aload_n (pc := 5) rfl 0 rfl E dX8_reset_5 ?_
  refine j_iconst (pc := 6) (v := 0) (by decide) E dX8_reset_6 ?_
  refine JF.xlet (fun m3 e4 => ?_)
  refine j_put (pc := 7) E xuX8 tyX8 tyX8_ok nmX8 rfl s_1 rfl (k := 10) (by decide) q_124 rfl rfl (ty := .int) (by decide +kernel) rfl rfl dX8_reset_7 e4 ?_
  refine j_aload_n (pc := 10) rfl 0 rfl E dX8_reset_10 ?_
  refine j_iconst (pc := 11) (v := 0) (by decide) E dX8_reset_11 ?_
  refine JF.xlet (fun m5 e6 => ?_)
  refine j_put (pc := 12) E xuX8 tyX8 tyX8_ok nmX8 rfl s_1 rfl (k := 11) (by decide) q_128 rfl rfl (ty := .int) (by decide +kernel) rfl rfl dX8_reset_12 e6 ?_
  refine j_aload_n (pc := 15) rfl 0 rfl E dX8_reset_15 ?_
  refine j_iconst (pc := 16) (v := 0) (by decide) E dX8_reset_16 ?_
  refine JF.xlet (fun m7 e8 => ?_)
  refine j_put (pc := 17) E xuX8 tyX8 tyX8_ok nmX8 rfl s_1 rfl (k := 12) (by decide) q_132 rfl rfl (ty := .int) (by decide +kernel) rfl rfl dX8_reset_17 e8 ?_
  refine j_aload_n (pc := 20) rfl 0 rfl E dX8_reset_20 ?_
  refine j_get (pc := 21) E xuX8 rfl s_1 (k := 4) (by decide) q_105 rfl (xflds_ref rfl) dX8_reset_21 ?_
  refine j_iconst (pc := 24) (v := 0) (by decide) E dX8_reset_24 ?_
  refine JF.xb (fun y9 m10 h11 => ?_)
  refine j_callSv (pc := 25) (st := []) E (kJ7_fill_53178 xr_6 h11) mv_J7_fill_53178 q_89 [.ref (xa X 6), .int 0] rfl rfl rfl (by decide) (Nat.le_of_ble_eq_true rfl) dX8_reset_25 ?_
  refine j_aload_n (pc := 28) rfl 0 rfl E dX8_reset_28 ?_
  refine j_get (pc := 29) E xuX8 rfl s_1 (k := 8) (by decide) q_115 rfl (xflds_ref rfl) dX8_reset_29 ?_
  refine j_iconst (pc := 32) (v := 3) (by decide) E dX8_reset_32 ?_
  refine JF.xb (fun y12 m13 h14 => ?_)
  refine j_callSv (pc := 33) (st := []) E (kJ7_fill_53178 xr_10 h14) mv_J7_fill_53178 q_89 [.ref (xa X 10), .int 3] rfl rfl rfl (by decide) (Nat.le_of_ble_eq_true rfl) dX8_reset_33 ?_
  exact j_vret (pc := 36) E R dX8_reset_36
def fX8_setPort (N : Nat) (σ : XS) (p1 : Int32) (p2 : Int32) : Option XO := if p1 < 0 then some (0, σ) else if 4 ≤ p1 then some (0, σ) else xLet (xUp σ 6 p1.toNatClampNeg p2) (fun m1 => gd (xin p1 4) (some (0, m1)))
set_option maxRecDepth 100000 in
set_option maxHeartbeats 4000000 in
theorem kX8_setPort {N : Nat} {σ : XS} {p1 : Int32} {p2 : Int32} {o : XO} (h : fX8_setPort N σ p1 p2 = some o) : CtV yX8_setPort cX8_setPort 3 none 0 0 (fun Am ad => [.ref (Am 1), .int p1, .int p2]) σ o := by
  refine ct_void (by decide) (fun _ _ => Nat.le_of_ble_eq_true rfl) (fun X E R => ?_)
  rw [← h]
  show JF X o 3 0 [(0, .ref (xa X 1)), (1, .int p1), (2, .int p2)] [] σ (if p1 < 0 then some (0, σ) else if 4 ≤ p1 then some (0, σ) else xLet (xUp σ 6 p1.toNatClampNeg p2) (fun m1 => gd (xin p1 4) (some (0, m1))))
  refine j_iload_n (pc := 0) rfl 1 rfl E dX8_setPort_0 ?_
  refine j_if_lt (pc := 1) (tgt := 16) E dX8_setPort_1 (by decide) ?_ ?_
  · exact j_vret (pc := 16) E R dX8_setPort_16
  · refine j_iload_n (pc := 4) rfl 1 rfl E dX8_setPort_4 ?_
    refine j_iconst (pc := 5) (v := 4) (by decide) E dX8_setPort_5 ?_
    refine j_icmp_ge (pc := 6) (tgt := 16) E dX8_setPort_6 (by decide) ?_ ?_
    · exact j_vret (pc := 16) E R dX8_setPort_16
    · refine j_aload_n (pc := 9) rfl 0 rfl E dX8_setPort_9 ?_
      refine j_get (pc := 10) E xuX8 rfl s_1 (k := 4) (by decide) q_105 rfl (xflds_ref rfl) dX8_setPort_10 ?_
      refine j_iload_n (pc := 13) rfl 1 rfl E dX8_setPort_13 ?_
      refine j_iload_n (pc := 14) rfl 2 rfl E dX8_setPort_14 ?_
      refine JF.xlet (fun m1 e2 => ?_)
      refine j_iast (pc := 15) E s_6 dX8_setPort_15 e2 ?_
      exact j_vret (pc := 16) E R dX8_setPort_16
def fX8_setUses (N : Nat) (σ : XS) (p1 : Int32) (p2 : Int32) : Option XO := if p1 < 0 then some (0, σ) else if 6 ≤ p1 then some (0, σ) else xLet (xUp σ 10 p1.toNatClampNeg p2) (fun m1 => gd (xin p1 6) (some (0, m1)))
set_option maxRecDepth 100000 in
set_option maxHeartbeats 4000000 in
theorem kX8_setUses {N : Nat} {σ : XS} {p1 : Int32} {p2 : Int32} {o : XO} (h : fX8_setUses N σ p1 p2 = some o) : CtV yX8_setUses cX8_setUses 3 none 0 0 (fun Am ad => [.ref (Am 1), .int p1, .int p2]) σ o := by
  refine ct_void (by decide) (fun _ _ => Nat.le_of_ble_eq_true rfl) (fun X E R => ?_)
  rw [← h]
  show JF X o 3 0 [(0, .ref (xa X 1)), (1, .int p1), (2, .int p2)] [] σ (if p1 < 0 then some (0, σ) else if 6 ≤ p1 then some (0, σ) else xLet (xUp σ 10 p1.toNatClampNeg p2) (fun m1 => gd (xin p1 6) (some (0, m1))))
  refine j_iload_n (pc := 0) rfl 1 rfl E dX8_setUses_0 ?_
  refine j_if_lt (pc := 1) (tgt := 17) E dX8_setUses_1 (by decide) ?_ ?_
  · exact j_vret (pc := 17) E R dX8_setUses_17
  · refine j_iload_n (pc := 4) rfl 1 rfl E dX8_setUses_4 ?_
    refine j_bipush (pc := 5) (v := 6) (by decide) E dX8_setUses_5 ?_
    refine j_icmp_ge (pc := 7) (tgt := 17) E dX8_setUses_7 (by decide) ?_ ?_
    · exact j_vret (pc := 17) E R dX8_setUses_17
    · refine j_aload_n (pc := 10) rfl 0 rfl E dX8_setUses_10 ?_
      refine j_get (pc := 11) E xuX8 rfl s_1 (k := 8) (by decide) q_115 rfl (xflds_ref rfl) dX8_setUses_11 ?_
      refine j_iload_n (pc := 14) rfl 1 rfl E dX8_setUses_14 ?_
      refine j_iload_n (pc := 15) rfl 2 rfl E dX8_setUses_15 ?_
      refine JF.xlet (fun m1 e2 => ?_)
      refine j_iast (pc := 16) E s_10 dX8_setUses_16 e2 ?_
      exact j_vret (pc := 17) E R dX8_setUses_17
def fX7_obey (N : Nat) (σ : XS) (p1 : Int32) : Option XO := if p1 < 0 then some (0, σ) else if p1 < 14 then gd (xin p1 14) (xLetI (σ 13 p1.toNatClampNeg) (fun x1 => gd (xin p1 14) (gd (xin 0 3) (xLetI (σ (15 + p1.toNatClampNeg) (0 : Int32).toNatClampNeg) (fun x3 => gd (xin p1 14) (gd (xin 1 3) (xLetI (σ (15 + p1.toNatClampNeg) (1 : Int32).toNatClampNeg) (fun x5 => gd (xin p1 14) (gd (xin 2 3) (xLetI (σ (15 + p1.toNatClampNeg) (2 : Int32).toNatClampNeg) (fun x7 => if 3 ≤ x1 then if x1 = 3 then xB (fX8_addWord N σ 3 x3 1 x5) (fun _ m26 => some (0, m26)) else if 7 ≤ x1 then if 10 ≤ x1 then if x1 = 10 then xB (fX8_reset N σ) (fun _ m18 => some (0, m18)) else if x1 = 11 then xB (fX8_setPort N σ x3 x5) (fun _ m15 => some (0, m15)) else if x1 = 12 then xB (fX8_addWare N σ x3 x5) (fun _ m12 => some (0, m12)) else xB (fX8_setUses N σ x3 x5) (fun _ m9 => some (0, m9)) else xLet (xUp σ 1 12 (x1 - 7)) (fun m20 => some (0, m20)) else xB (fX8_addClerk N σ (x1 - 4)) (fun _ m23 => some (0, m23)) else xB (fX8_addWord N σ x1 x3 x5 x7) (fun _ m29 => some (0, m29))))))))))))) else some (0, σ)
set_option maxRecDepth 100000 in
set_option maxHeartbeats 4000000 in
theorem kX7_obey {N : Nat} {σ : XS} {p1 : Int32} {o : XO} (h : fX7_obey N σ p1 = some o) : CtV yX7_obey cX7_obey 7 none 2 43 (fun Am ad => [.ref (Am 11), .int p1, .ref (Am 1)]) σ o := by
  refine ct_void (by decide) (fun _ _ => Nat.le_of_ble_eq_true rfl) (fun X E R => ?_)
  rw [← h]
  show JF X o 7 0 [(0, .ref (xa X 11)), (1, .int p1), (2, .ref (xa X 1))] [] σ (if p1 < 0 then some (0, σ) else if p1 < 14 then gd (xin p1 14) (xLetI (σ 13 p1.toNatClampNeg) (fun x1 => gd (xin p1 14) (gd (xin 0 3) (xLetI (σ (15 + p1.toNatClampNeg) (0 : Int32).toNatClampNeg) (fun x3 => gd (xin p1 14) (gd (xin 1 3) (xLetI (σ (15 + p1.toNatClampNeg) (1 : Int32).toNatClampNeg) (fun x5 => gd (xin p1 14) (gd (xin 2 3) (xLetI (σ (15 + p1.toNatClampNeg) (2 : Int32).toNatClampNeg) (fun x7 => if 3 ≤ x1 then if x1 = 3 then xB (fX8_addWord N σ 3 x3 1 x5) (fun _ m26 => some (0, m26)) else if 7 ≤ x1 then if 10 ≤ x1 then if x1 = 10 then xB (fX8_reset N σ) (fun _ m18 => some (0, m18)) else if x1 = 11 then xB (fX8_setPort N σ x3 x5) (fun _ m15 => some (0, m15)) else if x1 = 12 then xB (fX8_addWare N σ x3 x5) (fun _ m12 => some (0, m12)) else xB (fX8_setUses N σ x3 x5) (fun _ m9 => some (0, m9)) else xLet (xUp σ 1 12 (x1 - 7)) (fun m20 => some (0, m20)) else xB (fX8_addClerk N σ (x1 - 4)) (fun _ m23 => some (0, m23)) else xB (fX8_addWord N σ x1 x3 x5 x7) (fun _ m29 => some (0, m29))))))))))))) else some (0, σ))
  refine j_iload_n (pc := 0) rfl 1 rfl E dX7_obey_0 ?_
  refine j_if_lt (pc := 1) (tgt := 10) E dX7_obey_1 (by decide) ?_ ?_
  · exact j_vret (pc := 10) E R dX7_obey_10
  · refine j_iload_n (pc := 4) rfl 1 rfl E dX7_obey_4 ?_
    refine j_bipush (pc := 5) (v := 14) (by decide) E dX7_obey_5 ?_
    refine j_icmp_lt (pc := 7) (tgt := 11) E dX7_obey_7 (by decide) ?_ ?_
    · refine j_aload_n (pc := 11) rfl 0 rfl E dX7_obey_11 ?_
      refine j_get (pc := 12) E xuX7 rfl s_11 (k := 1) (by decide) q_172 rfl (xflds_ref rfl) dX7_obey_12 ?_
      refine j_iload_n (pc := 15) rfl 1 rfl E dX7_obey_15 ?_
      refine j_iald (pc := 16) E s_13 dX7_obey_16 ?_
      refine JF.xletI (fun x1 => ?_)
      refine j_istore_n (pc := 17) (lv1 := [(3, .int x1), (0, .ref (xa X 11)), (1, .int p1), (2, .ref (xa X 1))]) E dX7_obey_17 rfl (by decide) rfl ?_
      refine j_aload_n (pc := 18) rfl 1 rfl E dX7_obey_18 ?_
      refine j_get (pc := 19) E xuX7 rfl s_11 (k := 2) (by decide) q_173 rfl (xflds_ref rfl) dX7_obey_19 ?_
      refine j_iload_n (pc := 22) rfl 2 rfl E dX7_obey_22 ?_
      refine j_aald (pc := 23) (b := 15) E s_14 (by decide) dX7_obey_23 (fun g2 => ?_)
      refine j_iconst (pc := 24) (v := 0) (by decide) E dX7_obey_24 ?_
      refine j_iald (pc := 25) E (xg_15 _ (xin_lt g2)) dX7_obey_25 ?_
      refine JF.xletI (fun x3 => ?_)
      refine j_istore (pc := 26) (lv1 := [(4, .int x3), (3, .int x1), (0, .ref (xa X 11)), (1, .int p1), (2, .ref (xa X 1))]) E dX7_obey_26 (by decide) rfl ?_
      refine j_aload_n (pc := 28) rfl 2 rfl E dX7_obey_28 ?_
      refine j_get (pc := 29) E xuX7 rfl s_11 (k := 2) (by decide) q_173 rfl (xflds_ref rfl) dX7_obey_29 ?_
      refine j_iload_n (pc := 32) rfl 3 rfl E dX7_obey_32 ?_
      refine j_aald (pc := 33) (b := 15) E s_14 (by decide) dX7_obey_33 (fun g4 => ?_)
      refine j_iconst (pc := 34) (v := 1) (by decide) E dX7_obey_34 ?_
      refine j_iald (pc := 35) E (xg_15 _ (xin_lt g4)) dX7_obey_35 ?_
      refine JF.xletI (fun x5 => ?_)
      refine j_istore (pc := 36) (lv1 := [(5, .int x5), (4, .int x3), (3, .int x1), (0, .ref (xa X 11)), (1, .int p1), (2, .ref (xa X 1))]) E dX7_obey_36 (by decide) rfl ?_
      refine j_aload_n (pc := 38) rfl 3 rfl E dX7_obey_38 ?_
      refine j_get (pc := 39) E xuX7 rfl s_11 (k := 2) (by decide) q_173 rfl (xflds_ref rfl) dX7_obey_39 ?_
      refine j_iload_n (pc := 42) rfl 4 rfl E dX7_obey_42 ?_
      refine j_aald (pc := 43) (b := 15) E s_14 (by decide) dX7_obey_43 (fun g6 => ?_)
      refine j_iconst (pc := 44) (v := 2) (by decide) E dX7_obey_44 ?_
      refine j_iald (pc := 45) E (xg_15 _ (xin_lt g6)) dX7_obey_45 ?_
      refine JF.xletI (fun x7 => ?_)
      refine j_istore (pc := 46) (lv1 := [(6, .int x7), (5, .int x5), (4, .int x3), (3, .int x1), (0, .ref (xa X 11)), (1, .int p1), (2, .ref (xa X 1))]) E dX7_obey_46 (by decide) rfl ?_
      refine j_iload_n (pc := 48) rfl 3 rfl E dX7_obey_48 ?_
      refine j_iconst (pc := 49) (v := 3) (by decide) E dX7_obey_49 ?_
      refine j_icmp_ge (pc := 50) (tgt := 67) E dX7_obey_50 (by decide) ?_ ?_
      · refine j_iload_n (pc := 67) rfl 3 rfl E dX7_obey_67 ?_
        refine j_iconst (pc := 68) (v := 3) (by decide) E dX7_obey_68 ?_
        refine j_icmp_ne (pc := 69) (tgt := 85) E dX7_obey_69 (by decide) ?_ ?_
        · refine j_aload_n (pc := 72) rfl 6 rfl E dX7_obey_72 ?_
          refine j_iconst (pc := 73) (v := 3) (by decide) E dX7_obey_73 ?_
          refine j_iload (pc := 74) 2 rfl E dX7_obey_74 ?_
          refine j_iconst (pc := 76) (v := 1) (by decide) E dX7_obey_76 ?_
          refine j_iload (pc := 77) 1 rfl E dX7_obey_77 ?_
          refine JF.xb (fun y25 m26 h27 => ?_)
          refine j_callVv (pc := 79) (st := []) E (kX8_addWord h27) mv_X8_addWord rfl s_1 q_565 [.int 3, .int x3, .int 1, .int x5] rfl rfl rfl (by decide) (Nat.le_of_ble_eq_true rfl) dX7_obey_79 ?_
          refine j_goto (pc := 82) (tgt := 173) E dX7_obey_82 (by decide) ?_
          exact j_vret (pc := 173) E R dX7_obey_173
        · refine j_iload_n (pc := 85) rfl 3 rfl E dX7_obey_85 ?_
          refine j_bipush (pc := 86) (v := 7) (by decide) E dX7_obey_86 ?_
          refine j_icmp_ge (pc := 88) (tgt := 101) E dX7_obey_88 (by decide) ?_ ?_
          · refine j_iload_n (pc := 101) rfl 3 rfl E dX7_obey_101 ?_
            refine j_bipush (pc := 102) (v := 10) (by decide) E dX7_obey_102 ?_
            refine j_icmp_ge (pc := 104) (tgt := 118) E dX7_obey_104 (by decide) ?_ ?_
            · refine j_iload_n (pc := 118) rfl 3 rfl E dX7_obey_118 ?_
              refine j_bipush (pc := 119) (v := 10) (by decide) E dX7_obey_119 ?_
              refine j_icmp_ne (pc := 121) (tgt := 131) E dX7_obey_121 (by decide) ?_ ?_
              · refine j_aload_n (pc := 124) rfl 6 rfl E dX7_obey_124 ?_
                refine JF.xb (fun y17 m18 h19 => ?_)
                refine j_callVv (pc := 125) (st := []) E (kX8_reset h19) mv_X8_reset rfl s_1 q_573 [] rfl rfl rfl (by decide) (Nat.le_of_ble_eq_true rfl) dX7_obey_125 ?_
                refine j_goto (pc := 128) (tgt := 173) E dX7_obey_128 (by decide) ?_
                exact j_vret (pc := 173) E R dX7_obey_173
              · refine j_iload_n (pc := 131) rfl 3 rfl E dX7_obey_131 ?_
                refine j_bipush (pc := 132) (v := 11) (by decide) E dX7_obey_132 ?_
                refine j_icmp_ne (pc := 134) (tgt := 148) E dX7_obey_134 (by decide) ?_ ?_
                · refine j_aload_n (pc := 137) rfl 6 rfl E dX7_obey_137 ?_
                  refine j_iload (pc := 138) 2 rfl E dX7_obey_138 ?_
                  refine j_iload (pc := 140) 1 rfl E dX7_obey_140 ?_
                  refine JF.xb (fun y14 m15 h16 => ?_)
                  refine j_callVv (pc := 142) (st := []) E (kX8_setPort h16) mv_X8_setPort rfl s_1 q_577 [.int x3, .int x5] rfl rfl rfl (by decide) (Nat.le_of_ble_eq_true rfl) dX7_obey_142 ?_
                  refine j_goto (pc := 145) (tgt := 173) E dX7_obey_145 (by decide) ?_
                  exact j_vret (pc := 173) E R dX7_obey_173
                · refine j_iload_n (pc := 148) rfl 3 rfl E dX7_obey_148 ?_
                  refine j_bipush (pc := 149) (v := 12) (by decide) E dX7_obey_149 ?_
                  refine j_icmp_ne (pc := 151) (tgt := 165) E dX7_obey_151 (by decide) ?_ ?_
                  · refine j_aload_n (pc := 154) rfl 6 rfl E dX7_obey_154 ?_
                    refine j_iload (pc := 155) 2 rfl E dX7_obey_155 ?_
                    refine j_iload (pc := 157) 1 rfl E dX7_obey_157 ?_
                    refine JF.xb (fun y11 m12 h13 => ?_)
                    refine j_callVv (pc := 159) (st := []) E (kX8_addWare h13) mv_X8_addWare rfl s_1 q_581 [.int x3, .int x5] rfl rfl rfl (by decide) (Nat.le_of_ble_eq_true rfl) dX7_obey_159 ?_
                    refine j_goto (pc := 162) (tgt := 173) E dX7_obey_162 (by decide) ?_
                    exact j_vret (pc := 173) E R dX7_obey_173
                  · refine j_aload_n (pc := 165) rfl 6 rfl E dX7_obey_165 ?_
                    refine j_iload (pc := 166) 2 rfl E dX7_obey_166 ?_
                    refine j_iload (pc := 168) 1 rfl E dX7_obey_168 ?_
                    refine JF.xb (fun y8 m9 h10 => ?_)
                    refine j_callVv (pc := 170) (st := []) E (kX8_setUses h10) mv_X8_setUses rfl s_1 q_585 [.int x3, .int x5] rfl rfl rfl (by decide) (Nat.le_of_ble_eq_true rfl) dX7_obey_170 ?_
                    exact j_vret (pc := 173) E R dX7_obey_173
            · refine j_aload_n (pc := 107) rfl 6 rfl E dX7_obey_107 ?_
              refine j_iload_n (pc := 108) rfl 3 rfl E dX7_obey_108 ?_
              refine j_bipush (pc := 109) (v := 7) (by decide) E dX7_obey_109 ?_
              refine j_isub (pc := 111) E dX7_obey_111 ?_
              refine JF.xlet (fun m20 e21 => ?_)
              refine j_put (pc := 112) E xuX8 tyX8 tyX8_ok nmX8 rfl s_1 rfl (k := 12) (by decide) q_133 rfl rfl (ty := .int) (by decide +kernel) rfl rfl dX7_obey_112 e21 ?_
              refine j_goto (pc := 115) (tgt := 173) E dX7_obey_115 (by decide) ?_
              exact j_vret (pc := 173) E R dX7_obey_173
          · refine j_aload_n (pc := 91) rfl 6 rfl E dX7_obey_91 ?_
            refine j_iload_n (pc := 92) rfl 3 rfl E dX7_obey_92 ?_
            refine j_iconst (pc := 93) (v := 4) (by decide) E dX7_obey_93 ?_
            refine j_isub (pc := 94) E dX7_obey_94 ?_
            refine JF.xb (fun y22 m23 h24 => ?_)
            refine j_callVv (pc := 95) (st := []) E (kX8_addClerk h24) mv_X8_addClerk rfl s_1 q_569 [.int (x1 - 4)] rfl rfl rfl (by decide) (Nat.le_of_ble_eq_true rfl) dX7_obey_95 ?_
            refine j_goto (pc := 98) (tgt := 173) E dX7_obey_98 (by decide) ?_
            exact j_vret (pc := 173) E R dX7_obey_173
      · refine j_aload_n (pc := 53) rfl 6 rfl E dX7_obey_53 ?_
        refine j_iload_n (pc := 54) rfl 3 rfl E dX7_obey_54 ?_
        refine j_iload (pc := 55) 2 rfl E dX7_obey_55 ?_
        refine j_iload (pc := 57) 1 rfl E dX7_obey_57 ?_
        refine j_iload (pc := 59) 0 rfl E dX7_obey_59 ?_
        refine JF.xb (fun y28 m29 h30 => ?_)
        refine j_callVv (pc := 61) (st := []) E (kX8_addWord h30) mv_X8_addWord rfl s_1 q_565 [.int x1, .int x3, .int x5, .int x7] rfl rfl rfl (by decide) (Nat.le_of_ble_eq_true rfl) dX7_obey_61 ?_
        refine j_goto (pc := 64) (tgt := 173) E dX7_obey_64 (by decide) ?_
        exact j_vret (pc := 173) E R dX7_obey_173
    · exact j_vret (pc := 10) E R dX7_obey_10
def fX8_isWord (N : Nat) (σ : XS) (p1 : Int32) : Option XO := if p1 < 0 then some (0, σ) else if (σ 1 9) ≤ p1 then some (0, σ) else some (1, σ)
set_option maxRecDepth 100000 in
set_option maxHeartbeats 4000000 in
theorem kX8_isWord {N : Nat} {σ : XS} {p1 : Int32} {o : XO} (h : fX8_isWord N σ p1 = some o) : CtI yX8_isWord cX8_isWord 2 (some .boolean) 0 0 (fun Am ad => [.ref (Am 1), .int p1]) σ o := by
  refine ct_z (by decide) (fun _ _ => Nat.le_of_ble_eq_true rfl) (fun X E R => ?_)
  rw [← h]
  show JF X o 2 0 [(0, .ref (xa X 1)), (1, .int p1)] [] σ (if p1 < 0 then some (0, σ) else if (σ 1 9) ≤ p1 then some (0, σ) else some (1, σ))
  refine j_iload_n (pc := 0) rfl 1 rfl E dX8_isWord_0 ?_
  refine j_if_lt (pc := 1) (tgt := 16) E dX8_isWord_1 (by decide) ?_ ?_
  · refine j_iconst (pc := 16) (v := 0) (by decide) E dX8_isWord_16 ?_
    exact j_zret (pc := 17) E R rfl dX8_isWord_17
  · refine j_iload_n (pc := 4) rfl 1 rfl E dX8_isWord_4 ?_
    refine j_aload_n (pc := 5) rfl 0 rfl E dX8_isWord_5 ?_
    refine j_get (pc := 6) E xuX8 rfl s_1 (k := 9) (by decide) q_117 rfl (xflds_int rfl) dX8_isWord_6 ?_
    refine j_icmp_ge (pc := 9) (tgt := 16) E dX8_isWord_9 (by decide) ?_ ?_
    · refine j_iconst (pc := 16) (v := 0) (by decide) E dX8_isWord_16 ?_
      exact j_zret (pc := 17) E R rfl dX8_isWord_17
    · refine j_iconst (pc := 12) (v := 1) (by decide) E dX8_isWord_12 ?_
      refine j_goto (pc := 13) (tgt := 17) E dX8_isWord_13 (by decide) ?_
      exact j_zret (pc := 17) E R rfl dX8_isWord_17
def fX8_isWare (N : Nat) (σ : XS) (p1 : Int32) : Option XO := if p1 < 0 then some (0, σ) else if (σ 1 10) ≤ p1 then some (0, σ) else some (1, σ)
set_option maxRecDepth 100000 in
set_option maxHeartbeats 4000000 in
theorem kX8_isWare {N : Nat} {σ : XS} {p1 : Int32} {o : XO} (h : fX8_isWare N σ p1 = some o) : CtI yX8_isWare cX8_isWare 2 (some .boolean) 0 0 (fun Am ad => [.ref (Am 1), .int p1]) σ o := by
  refine ct_z (by decide) (fun _ _ => Nat.le_of_ble_eq_true rfl) (fun X E R => ?_)
  rw [← h]
  show JF X o 2 0 [(0, .ref (xa X 1)), (1, .int p1)] [] σ (if p1 < 0 then some (0, σ) else if (σ 1 10) ≤ p1 then some (0, σ) else some (1, σ))
  refine j_iload_n (pc := 0) rfl 1 rfl E dX8_isWare_0 ?_
  refine j_if_lt (pc := 1) (tgt := 16) E dX8_isWare_1 (by decide) ?_ ?_
  · refine j_iconst (pc := 16) (v := 0) (by decide) E dX8_isWare_16 ?_
    exact j_zret (pc := 17) E R rfl dX8_isWare_17
  · refine j_iload_n (pc := 4) rfl 1 rfl E dX8_isWare_4 ?_
    refine j_aload_n (pc := 5) rfl 0 rfl E dX8_isWare_5 ?_
    refine j_get (pc := 6) E xuX8 rfl s_1 (k := 10) (by decide) q_124 rfl (xflds_int rfl) dX8_isWare_6 ?_
    refine j_icmp_ge (pc := 9) (tgt := 16) E dX8_isWare_9 (by decide) ?_ ?_
    · refine j_iconst (pc := 16) (v := 0) (by decide) E dX8_isWare_16 ?_
      exact j_zret (pc := 17) E R rfl dX8_isWare_17
    · refine j_iconst (pc := 12) (v := 1) (by decide) E dX8_isWare_12 ?_
      refine j_goto (pc := 13) (tgt := 17) E dX8_isWare_13 (by decide) ?_
      exact j_zret (pc := 17) E R rfl dX8_isWare_17
def fX8_portsOf_L4 (N : Nat) (v1 : Int32) (k31 : Int32 → XS → Option XO) : Nat → Int32 → Int32 → XS → Option XO
  | 0, _, _, _ => none
  | n + 1, v2, v3, σ => if 4 ≤ v3 then k31 v2 σ else gd (xin v3 4) (if (σ 6 v3.toNatClampNeg) = v1 then xLetI (v2 ||| (1 <<< (v3 &&& 31))) (fun x1 => fX8_portsOf_L4 N v1 k31 n x1 (v3 + 1) σ) else fX8_portsOf_L4 N v1 k31 n v2 (v3 + 1) σ)
set_option maxRecDepth 100000 in
set_option maxHeartbeats 4000000 in
theorem lX8_portsOf_L4 (N : Nat) (v1 : Int32) (k31 : Int32 → XS → Option XO) {X : XC} {o : XO} (E : XE X cX8_portsOf RX8 4 0 0) (R : XI X o cX8_portsOf) (K31 : ∀ (v2 : Int32) (σ : XS), JF X o 4 31 [(2, .int v2)] [] σ (k31 v2 σ)) : ∀ (n : Nat) (v2 : Int32) (v3 : Int32) (σ : XS), JF X o 4 4 [(0, .ref (xa X 1)), (1, .int v1), (2, .int v2), (3, .int v3)] [] σ (fX8_portsOf_L4 N v1 k31 n v2 v3 σ) := by
  intro n
  induction n with
  | zero => intro v2 v3 σ; exact JF.none
  | succ n ih =>
    intro v2 v3 σ
    show JF X o 4 4 [(0, .ref (xa X 1)), (1, .int v1), (2, .int v2), (3, .int v3)] [] σ (if 4 ≤ v3 then k31 v2 σ else gd (xin v3 4) (if (σ 6 v3.toNatClampNeg) = v1 then xLetI (v2 ||| (1 <<< (v3 &&& 31))) (fun x1 => fX8_portsOf_L4 N v1 k31 n x1 (v3 + 1) σ) else fX8_portsOf_L4 N v1 k31 n v2 (v3 + 1) σ))
    refine j_iload_n (pc := 4) rfl 3 rfl E dX8_portsOf_4 ?_
    refine j_iconst (pc := 5) (v := 4) (by decide) E dX8_portsOf_5 ?_
    refine j_icmp_ge (pc := 6) (tgt := 31) E dX8_portsOf_6 (by decide) ?_ ?_
    · refine JF.sub [2] rfl ?_
      exact K31 v2 σ
    · refine j_aload_n (pc := 9) rfl 0 rfl E dX8_portsOf_9 ?_
      refine j_get (pc := 10) E xuX8 rfl s_1 (k := 4) (by decide) q_105 rfl (xflds_ref rfl) dX8_portsOf_10 ?_
      refine j_iload_n (pc := 13) rfl 3 rfl E dX8_portsOf_13 ?_
      refine j_iald (pc := 14) E s_6 dX8_portsOf_14 ?_
      refine j_iload_n (pc := 15) rfl 1 rfl E dX8_portsOf_15 ?_
      refine j_icmp_ne (pc := 16) (tgt := 25) E dX8_portsOf_16 (by decide) ?_ ?_
      · refine j_iload_n (pc := 19) rfl 2 rfl E dX8_portsOf_19 ?_
        refine j_iconst (pc := 20) (v := 1) (by decide) E dX8_portsOf_20 ?_
        refine j_iload_n (pc := 21) rfl 3 rfl E dX8_portsOf_21 ?_
        refine j_ishl (pc := 22) E dX8_portsOf_22 ?_
        refine j_ior (pc := 23) E dX8_portsOf_23 ?_
        refine JF.xletI (fun x1 => ?_)
        refine j_istore_n (pc := 24) (lv1 := [(2, .int x1), (0, .ref (xa X 1)), (1, .int v1), (3, .int v3)]) E dX8_portsOf_24 rfl (by decide) rfl ?_
        refine j_iinc (pc := 25) (v := (v3 + 1)) (lv1 := [(3, .int (v3 + 1)), (2, .int x1), (0, .ref (xa X 1)), (1, .int v1)]) E dX8_portsOf_25 3 rfl rfl (by decide) rfl ?_
        refine j_goto (pc := 28) (tgt := 4) E dX8_portsOf_28 (by decide) ?_
        refine JF.sub [2, 3, 1, 0] rfl ?_
        exact ih x1 (v3 + 1) σ
      · refine j_iinc (pc := 25) (v := (v3 + 1)) (lv1 := [(3, .int (v3 + 1)), (0, .ref (xa X 1)), (1, .int v1), (2, .int v2)]) E dX8_portsOf_25 3 rfl rfl (by decide) rfl ?_
        refine j_goto (pc := 28) (tgt := 4) E dX8_portsOf_28 (by decide) ?_
        refine JF.sub [1, 2, 3, 0] rfl ?_
        exact ih v2 (v3 + 1) σ
def fX8_portsOf (N : Nat) (σ : XS) (p1 : Int32) : Option XO := fX8_portsOf_L4 N p1 (fun x2 m3 => some (x2, m3)) N 0 0 σ
set_option maxRecDepth 100000 in
set_option maxHeartbeats 4000000 in
theorem kX8_portsOf {N : Nat} {σ : XS} {p1 : Int32} {o : XO} (h : fX8_portsOf N σ p1 = some o) : CtI yX8_portsOf cX8_portsOf 4 (some .int) 0 0 (fun Am ad => [.ref (Am 1), .int p1]) σ o := by
  refine ct_int (by decide) (fun _ _ => Nat.le_of_ble_eq_true rfl) (fun X E R => ?_)
  rw [← h]
  show JF X o 4 0 [(0, .ref (xa X 1)), (1, .int p1)] [] σ (fX8_portsOf_L4 N p1 (fun x2 m3 => some (x2, m3)) N 0 0 σ)
  refine j_iconst (pc := 0) (v := 0) (by decide) E dX8_portsOf_0 ?_
  refine j_istore_n (pc := 1) (lv1 := [(2, .int 0), (0, .ref (xa X 1)), (1, .int p1)]) E dX8_portsOf_1 rfl (by decide) rfl ?_
  refine j_iconst (pc := 2) (v := 0) (by decide) E dX8_portsOf_2 ?_
  refine j_istore_n (pc := 3) (lv1 := [(3, .int 0), (2, .int 0), (0, .ref (xa X 1)), (1, .int p1)]) E dX8_portsOf_3 rfl (by decide) rfl ?_
  refine JF.sub [2, 3, 1, 0] rfl ?_
  refine lX8_portsOf_L4 N p1 _ E R (fun x2 m3 => ?_) N 0 0 σ
  · refine j_iload_n (pc := 31) rfl 0 rfl E dX8_portsOf_31 ?_
    exact j_iret (pc := 32) E R dX8_portsOf_32
def fX8_portsRhymedBy (N : Nat) (σ : XS) (p1 : Int32) : Option XO := xB (fX9_at N σ 2 p1) (fun y1 m2 => if y1 = 2 then some (15, m2) else xB (fX9_at N m2 5 p1) (fun y4 m5 => xB (fX8_portsOf N m5 y4) (fun y7 m8 => some (y7, m8))))
set_option maxRecDepth 100000 in
set_option maxHeartbeats 4000000 in
theorem kX8_portsRhymedBy {N : Nat} {σ : XS} {p1 : Int32} {o : XO} (h : fX8_portsRhymedBy N σ p1 = some o) : CtI yX8_portsRhymedBy cX8_portsRhymedBy 2 (some .int) 1 23 (fun Am ad => [.ref (Am 1), .int p1]) σ o := by
  refine ct_int (by decide) (fun _ _ => Nat.le_of_ble_eq_true rfl) (fun X E R => ?_)
  rw [← h]
  show JF X o 2 0 [(0, .ref (xa X 1)), (1, .int p1)] [] σ (xB (fX9_at N σ 2 p1) (fun y1 m2 => if y1 = 2 then some (15, m2) else xB (fX9_at N m2 5 p1) (fun y4 m5 => xB (fX8_portsOf N m5 y4) (fun y7 m8 => some (y7, m8)))))
  refine j_aload_n (pc := 0) rfl 0 rfl E dX8_portsRhymedBy_0 ?_
  refine j_get (pc := 1) E xuX8 rfl s_1 (k := 0) (by decide) q_92 rfl (xflds_ref rfl) dX8_portsRhymedBy_1 ?_
  refine j_iload_n (pc := 4) rfl 1 rfl E dX8_portsRhymedBy_4 ?_
  refine JF.xb (fun y1 m2 h3 => ?_)
  refine j_callSiN (pc := 5) (st := []) E (kX9_at xr_2 h3) mv_X9_at (by decide +kernel) [.ref (xa X 2), .int p1] rfl rfl rfl (by decide) (Nat.le_of_ble_eq_true rfl) dX8_portsRhymedBy_5 ?_
  refine j_iconst (pc := 8) (v := 2) (by decide) E dX8_portsRhymedBy_8 ?_
  refine j_icmp_ne (pc := 9) (tgt := 15) E dX8_portsRhymedBy_9 (by decide) ?_ ?_
  · refine j_bipush (pc := 12) (v := 15) (by decide) E dX8_portsRhymedBy_12 ?_
    exact j_iret (pc := 14) E R dX8_portsRhymedBy_14
  · refine j_aload_n (pc := 15) rfl 0 rfl E dX8_portsRhymedBy_15 ?_
    refine j_aload_n (pc := 16) rfl 0 rfl E dX8_portsRhymedBy_16 ?_
    refine j_get (pc := 17) E xuX8 rfl s_1 (k := 3) (by decide) q_103 rfl (xflds_ref rfl) dX8_portsRhymedBy_17 ?_
    refine j_iload_n (pc := 20) rfl 1 rfl E dX8_portsRhymedBy_20 ?_
    refine JF.xb (fun y4 m5 h6 => ?_)
    refine j_callSiN (pc := 21) (st := [.ref (xa X 1)]) E (kX9_at xr_5 h6) mv_X9_at (by decide +kernel) [.ref (xa X 5), .int p1] rfl rfl rfl (by decide) (Nat.le_of_ble_eq_true rfl) dX8_portsRhymedBy_21 ?_
    refine JF.xb (fun y7 m8 h9 => ?_)
    refine j_callVi (pc := 24) (st := []) E (kX8_portsOf h9) mv_X8_portsOf rfl s_1 q_659 [.int y4] rfl rfl rfl (by decide) (Nat.le_of_ble_eq_true rfl) dX8_portsRhymedBy_24 ?_
    exact j_iret (pc := 27) E R dX8_portsRhymedBy_27
def fX8_rhymeWornBy (N : Nat) (σ : XS) (p1 : Int32) : Option XO := xB (fX8_isWord N σ p1) (fun y1 m2 => if y1 = 0 then some ((-1), m2) else xB (fX9_at N m2 2 p1) (fun y4 m5 => if y4 = 2 then some ((-1), m5) else xB (fX9_at N m5 5 p1) (fun y7 m8 => some (y7, m8))))
set_option maxRecDepth 100000 in
set_option maxHeartbeats 4000000 in
theorem kX8_rhymeWornBy {N : Nat} {σ : XS} {p1 : Int32} {o : XO} (h : fX8_rhymeWornBy N σ p1 = some o) : CtI yX8_rhymeWornBy cX8_rhymeWornBy 2 (some .int) 1 21 (fun Am ad => [.ref (Am 1), .int p1]) σ o := by
  refine ct_int (by decide) (fun _ _ => Nat.le_of_ble_eq_true rfl) (fun X E R => ?_)
  rw [← h]
  show JF X o 2 0 [(0, .ref (xa X 1)), (1, .int p1)] [] σ (xB (fX8_isWord N σ p1) (fun y1 m2 => if y1 = 0 then some ((-1), m2) else xB (fX9_at N m2 2 p1) (fun y4 m5 => if y4 = 2 then some ((-1), m5) else xB (fX9_at N m5 5 p1) (fun y7 m8 => some (y7, m8)))))
  refine j_aload_n (pc := 0) rfl 0 rfl E dX8_rhymeWornBy_0 ?_
  refine j_iload_n (pc := 1) rfl 1 rfl E dX8_rhymeWornBy_1 ?_
  refine JF.xb (fun y1 m2 h3 => ?_)
  refine j_callVi (pc := 2) (st := []) E (kX8_isWord h3) mv_X8_isWord rfl s_1 q_773 [.int p1] rfl rfl rfl (by decide) (Nat.le_of_ble_eq_true rfl) dX8_rhymeWornBy_2 ?_
  refine j_if_eq (pc := 5) (tgt := 20) E dX8_rhymeWornBy_5 (by decide) ?_ ?_
  · refine j_iconst (pc := 20) (v := (-1)) (by decide) E dX8_rhymeWornBy_20 ?_
    exact j_iret (pc := 21) E R dX8_rhymeWornBy_21
  · refine j_aload_n (pc := 8) rfl 0 rfl E dX8_rhymeWornBy_8 ?_
    refine j_get (pc := 9) E xuX8 rfl s_1 (k := 0) (by decide) q_92 rfl (xflds_ref rfl) dX8_rhymeWornBy_9 ?_
    refine j_iload_n (pc := 12) rfl 1 rfl E dX8_rhymeWornBy_12 ?_
    refine JF.xb (fun y4 m5 h6 => ?_)
    refine j_callSiN (pc := 13) (st := []) E (kX9_at xr_2 h6) mv_X9_at (by decide +kernel) [.ref (xa X 2), .int p1] rfl rfl rfl (by decide) (Nat.le_of_ble_eq_true rfl) dX8_rhymeWornBy_13 ?_
    refine j_iconst (pc := 16) (v := 2) (by decide) E dX8_rhymeWornBy_16 ?_
    refine j_icmp_ne (pc := 17) (tgt := 22) E dX8_rhymeWornBy_17 (by decide) ?_ ?_
    · refine j_iconst (pc := 20) (v := (-1)) (by decide) E dX8_rhymeWornBy_20 ?_
      exact j_iret (pc := 21) E R dX8_rhymeWornBy_21
    · refine j_aload_n (pc := 22) rfl 0 rfl E dX8_rhymeWornBy_22 ?_
      refine j_get (pc := 23) E xuX8 rfl s_1 (k := 3) (by decide) q_103 rfl (xflds_ref rfl) dX8_rhymeWornBy_23 ?_
      refine j_iload_n (pc := 26) rfl 1 rfl E dX8_rhymeWornBy_26 ?_
      refine JF.xb (fun y7 m8 h9 => ?_)
      refine j_callSiN (pc := 27) (st := []) E (kX9_at xr_5 h9) mv_X9_at (by decide +kernel) [.ref (xa X 5), .int p1] rfl rfl rfl (by decide) (Nat.le_of_ble_eq_true rfl) dX8_rhymeWornBy_27 ?_
      exact j_iret (pc := 30) E R dX8_rhymeWornBy_30
def fX8_isWorn (N : Nat) (σ : XS) (p1 : Int32) (p2 : Int32) : Option XO := if p1 = (-1) then some (0, σ) else xB (fX9_at N σ 10 p1) (fun y1 m2 => if p2 < y1 then some (0, m2) else some (1, m2))
set_option maxRecDepth 100000 in
set_option maxHeartbeats 4000000 in
theorem kX8_isWorn {N : Nat} {σ : XS} {p1 : Int32} {p2 : Int32} {o : XO} (h : fX8_isWorn N σ p1 p2 = some o) : CtI yX8_isWorn cX8_isWorn 3 (some .boolean) 1 21 (fun Am ad => [.ref (Am 1), .int p1, .int p2]) σ o := by
  refine ct_z (by decide) (fun _ _ => Nat.le_of_ble_eq_true rfl) (fun X E R => ?_)
  rw [← h]
  show JF X o 3 0 [(0, .ref (xa X 1)), (1, .int p1), (2, .int p2)] [] σ (if p1 = (-1) then some (0, σ) else xB (fX9_at N σ 10 p1) (fun y1 m2 => if p2 < y1 then some (0, m2) else some (1, m2)))
  refine j_iload_n (pc := 0) rfl 1 rfl E dX8_isWorn_0 ?_
  refine j_iconst (pc := 1) (v := (-1)) (by decide) E dX8_isWorn_1 ?_
  refine j_icmp_eq (pc := 2) (tgt := 21) E dX8_isWorn_2 (by decide) ?_ ?_
  · refine j_iconst (pc := 21) (v := 0) (by decide) E dX8_isWorn_21 ?_
    exact j_zret (pc := 22) E R rfl dX8_isWorn_22
  · refine j_iload_n (pc := 5) rfl 2 rfl E dX8_isWorn_5 ?_
    refine j_aload_n (pc := 6) rfl 0 rfl E dX8_isWorn_6 ?_
    refine j_get (pc := 7) E xuX8 rfl s_1 (k := 8) (by decide) q_115 rfl (xflds_ref rfl) dX8_isWorn_7 ?_
    refine j_iload_n (pc := 10) rfl 1 rfl E dX8_isWorn_10 ?_
    refine JF.xb (fun y1 m2 h3 => ?_)
    refine j_callSiN (pc := 11) (st := [.int p2]) E (kX9_at xr_10 h3) mv_X9_at (by decide +kernel) [.ref (xa X 10), .int p1] rfl rfl rfl (by decide) (Nat.le_of_ble_eq_true rfl) dX8_isWorn_11 ?_
    refine j_icmp_lt (pc := 14) (tgt := 21) E dX8_isWorn_14 (by decide) ?_ ?_
    · refine j_iconst (pc := 21) (v := 0) (by decide) E dX8_isWorn_21 ?_
      exact j_zret (pc := 22) E R rfl dX8_isWorn_22
    · refine j_iconst (pc := 17) (v := 1) (by decide) E dX8_isWorn_17 ?_
      refine j_goto (pc := 18) (tgt := 22) E dX8_isWorn_18 (by decide) ?_
      exact j_zret (pc := 22) E R rfl dX8_isWorn_22
def fX9_write (N : Nat) (σ : XS) (p1 : Int32) : Option XO := if p1 < 0 then some ((-3), σ) else if p1 < 256 then if (σ 11 3) < 160 then xB (fX7_add N σ p1) (fun y1 m2 => some (y1, m2)) else some ((-5), σ) else some ((-3), σ)
set_option maxRecDepth 100000 in
set_option maxHeartbeats 4000000 in
theorem kX9_write {N : Nat} {σ : XS} {p1 : Int32} {o : XO} (h : fX9_write N σ p1 = some o) : CtI yX9_write cX9_write 2 (some .int) 1 21 (fun Am ad => [.ref (Am 0), .int p1]) σ o := by
  refine ct_int (by decide) (fun _ _ => Nat.le_of_ble_eq_true rfl) (fun X E R => ?_)
  rw [← h]
  show JF X o 2 0 [(0, .ref (xa X 0)), (1, .int p1)] [] σ (if p1 < 0 then some ((-3), σ) else if p1 < 256 then if (σ 11 3) < 160 then xB (fX7_add N σ p1) (fun y1 m2 => some (y1, m2)) else some ((-5), σ) else some ((-3), σ))
  refine j_iload_n (pc := 0) rfl 1 rfl E dX9_write_0 ?_
  refine j_if_lt (pc := 1) (tgt := 11) E dX9_write_1 (by decide) ?_ ?_
  · refine j_bipush (pc := 11) (v := (-3)) (by decide) E dX9_write_11 ?_
    exact j_iret (pc := 13) E R dX9_write_13
  · refine j_iload_n (pc := 4) rfl 1 rfl E dX9_write_4 ?_
    refine j_sipush (pc := 5) (v := 256) (by decide) E dX9_write_5 ?_
    refine j_icmp_lt (pc := 8) (tgt := 14) E dX9_write_8 (by decide) ?_ ?_
    · refine j_aload_n (pc := 14) rfl 0 rfl E dX9_write_14 ?_
      refine j_get (pc := 15) E xuX9 rfl s_0 (k := 1) (by decide) q_390 rfl (xflds_ref rfl) dX9_write_15 ?_
      refine j_get (pc := 18) E xuX7 rfl s_11 (k := 3) (by decide) q_175 rfl (xflds_int rfl) dX9_write_18 ?_
      refine j_sipush (pc := 21) (v := 160) (by decide) E dX9_write_21 ?_
      refine j_icmp_lt (pc := 24) (tgt := 30) E dX9_write_24 (by decide) ?_ ?_
      · refine j_aload_n (pc := 30) rfl 0 rfl E dX9_write_30 ?_
        refine j_get (pc := 31) E xuX9 rfl s_0 (k := 1) (by decide) q_390 rfl (xflds_ref rfl) dX9_write_31 ?_
        refine j_iload_n (pc := 34) rfl 1 rfl E dX9_write_34 ?_
        refine JF.xb (fun y1 m2 h3 => ?_)
        refine j_callVi (pc := 35) (st := []) E (kX7_add h3) mv_X7_add rfl s_11 q_424 [.int p1] rfl rfl rfl (by decide) (Nat.le_of_ble_eq_true rfl) dX9_write_35 ?_
        exact j_iret (pc := 38) E R dX9_write_38
      · refine j_bipush (pc := 27) (v := (-5)) (by decide) E dX9_write_27 ?_
        exact j_iret (pc := 29) E R dX9_write_29
    · refine j_bipush (pc := 11) (v := (-3)) (by decide) E dX9_write_11 ?_
      exact j_iret (pc := 13) E R dX9_write_13
def fX9_erase (N : Nat) (σ : XS) : Option XO := xB (fX7_clear N σ) (fun y1 m2 => some (y1, m2))
set_option maxRecDepth 100000 in
set_option maxHeartbeats 4000000 in
theorem kX9_erase {N : Nat} {σ : XS} {o : XO} (h : fX9_erase N σ = some o) : CtI yX9_erase cX9_erase 1 (some .int) 1 21 (fun Am ad => [.ref (Am 0)]) σ o := by
  refine ct_int (by decide) (fun _ _ => Nat.le_of_ble_eq_true rfl) (fun X E R => ?_)
  rw [← h]
  show JF X o 1 0 [(0, .ref (xa X 0))] [] σ (xB (fX7_clear N σ) (fun y1 m2 => some (y1, m2)))
  refine j_aload_n (pc := 0) rfl 0 rfl E dX9_erase_0 ?_
  refine j_get (pc := 1) E xuX9 rfl s_0 (k := 1) (by decide) q_390 rfl (xflds_ref rfl) dX9_erase_1 ?_
  refine JF.xb (fun y1 m2 h3 => ?_)
  refine j_callVi (pc := 4) (st := []) E (kX7_clear h3) mv_X7_clear rfl s_11 q_432 [] rfl rfl rfl (by decide) (Nat.le_of_ble_eq_true rfl) dX9_erase_4 ?_
  exact j_iret (pc := 7) E R dX9_erase_7
def fX9_fault (N : Nat) (σ : XS) : Option XO := xB (fX7_read N σ) (fun y1 m2 => some (y1, m2))
set_option maxRecDepth 100000 in
set_option maxHeartbeats 4000000 in
theorem kX9_fault {N : Nat} {σ : XS} {o : XO} (h : fX9_fault N σ = some o) : CtI yX9_fault cX9_fault 1 (some .int) 8 211 (fun Am ad => [.ref (Am 0)]) σ o := by
  refine ct_int (by decide) (fun _ _ => Nat.le_of_ble_eq_true rfl) (fun X E R => ?_)
  rw [← h]
  show JF X o 1 0 [(0, .ref (xa X 0))] [] σ (xB (fX7_read N σ) (fun y1 m2 => some (y1, m2)))
  refine j_aload_n (pc := 0) rfl 0 rfl E dX9_fault_0 ?_
  refine j_get (pc := 1) E xuX9 rfl s_0 (k := 1) (by decide) q_390 rfl (xflds_ref rfl) dX9_fault_1 ?_
  refine j_aload_n (pc := 4) rfl 0 rfl E dX9_fault_4 ?_
  refine j_get (pc := 5) E xuX9 rfl s_0 (k := 0) (by decide) q_389 rfl (xflds_ref rfl) dX9_fault_5 ?_
  refine JF.xb (fun y1 m2 h3 => ?_)
  refine j_callVi (pc := 8) (st := []) E (kX7_read h3) mv_X7_read rfl s_11 q_440 [.ref (xa X 1)] rfl rfl rfl (by decide) (Nat.le_of_ble_eq_true rfl) dX9_fault_8 ?_
  exact j_iret (pc := 11) E R dX9_fault_11
def fX9_customs_L20 (N : Nat) (k49 : XS → Option XO) : Nat → Int32 → XS → Option XO
  | 0, _, _ => none
  | n + 1, v1, σ => if (σ 11 4) ≤ v1 then k49 σ else xB (fX7_obey N σ v1) (fun _ m5 => fX9_customs_L20 N k49 n (v1 + 1) m5)
set_option maxRecDepth 100000 in
set_option maxHeartbeats 4000000 in
theorem lX9_customs_L20 (N : Nat) (k49 : XS → Option XO) {X : XC} {o : XO} (E : XE X cX9_customs RX9 2 8 211) (R : XI X o cX9_customs) (K49 : ∀ (σ : XS), JF X o 2 49 [(0, .ref (xa X 0))] [] σ (k49 σ)) : ∀ (n : Nat) (v1 : Int32) (σ : XS), JF X o 2 20 [(0, .ref (xa X 0)), (1, .int v1)] [] σ (fX9_customs_L20 N k49 n v1 σ) := by
  intro n
  induction n with
  | zero => intro v1 σ; exact JF.none
  | succ n ih =>
    intro v1 σ
    show JF X o 2 20 [(0, .ref (xa X 0)), (1, .int v1)] [] σ (if (σ 11 4) ≤ v1 then k49 σ else xB (fX7_obey N σ v1) (fun _ m5 => fX9_customs_L20 N k49 n (v1 + 1) m5))
    refine j_iload_n (pc := 20) rfl 1 rfl E dX9_customs_20 ?_
    refine j_aload_n (pc := 21) rfl 0 rfl E dX9_customs_21 ?_
    refine j_get (pc := 22) E xuX9 rfl s_0 (k := 1) (by decide) q_390 rfl (xflds_ref rfl) dX9_customs_22 ?_
    refine j_get (pc := 25) E xuX7 rfl s_11 (k := 4) (by decide) q_177 rfl (xflds_int rfl) dX9_customs_25 ?_
    refine j_icmp_ge (pc := 28) (tgt := 49) E dX9_customs_28 (by decide) ?_ ?_
    · refine JF.sub [0] rfl ?_
      exact K49  σ
    · refine j_aload_n (pc := 31) rfl 0 rfl E dX9_customs_31 ?_
      refine j_get (pc := 32) E xuX9 rfl s_0 (k := 1) (by decide) q_390 rfl (xflds_ref rfl) dX9_customs_32 ?_
      refine j_iload_n (pc := 35) rfl 1 rfl E dX9_customs_35 ?_
      refine j_aload_n (pc := 36) rfl 0 rfl E dX9_customs_36 ?_
      refine j_get (pc := 37) E xuX9 rfl s_0 (k := 0) (by decide) q_389 rfl (xflds_ref rfl) dX9_customs_37 ?_
      refine JF.xb (fun y4 m5 h6 => ?_)
      refine j_callVv (pc := 40) (st := []) E (kX7_obey h6) mv_X7_obey rfl s_11 q_561 [.int v1, .ref (xa X 1)] rfl rfl rfl (by decide) (Nat.le_of_ble_eq_true rfl) dX9_customs_40 ?_
      refine j_iinc (pc := 43) (v := (v1 + 1)) (lv1 := [(1, .int (v1 + 1)), (0, .ref (xa X 0))]) E dX9_customs_43 1 rfl rfl (by decide) rfl ?_
      refine j_goto (pc := 46) (tgt := 20) E dX9_customs_46 (by decide) ?_
      refine JF.sub [1, 0] rfl ?_
      exact ih (v1 + 1) m5
def fX9_customs (N : Nat) (σ : XS) : Option XO := xB (fX7_read N σ) (fun y1 m2 => if y1 = (-1) then fX9_customs_L20 N (fun m7 => xB (fX7_clear N m7) (fun y8 m9 => xB (fX0_begin N m9) (fun _ m12 => xB (fX4_clear N m12 44) (fun y14 m15 => xB (fX5_forget N m15) (fun _ m18 => some ((m7 11 4), m18)))))) N 0 m2 else some ((-4), m2))
set_option maxRecDepth 100000 in
set_option maxHeartbeats 4000000 in
theorem kX9_customs {N : Nat} {σ : XS} {o : XO} (h : fX9_customs N σ = some o) : CtI yX9_customs cX9_customs 2 (some .int) 8 211 (fun Am ad => [.ref (Am 0)]) σ o := by
  refine ct_int (by decide) (fun _ _ => Nat.le_of_ble_eq_true rfl) (fun X E R => ?_)
  rw [← h]
  show JF X o 2 0 [(0, .ref (xa X 0))] [] σ (xB (fX7_read N σ) (fun y1 m2 => if y1 = (-1) then fX9_customs_L20 N (fun m7 => xB (fX7_clear N m7) (fun y8 m9 => xB (fX0_begin N m9) (fun _ m12 => xB (fX4_clear N m12 44) (fun y14 m15 => xB (fX5_forget N m15) (fun _ m18 => some ((m7 11 4), m18)))))) N 0 m2 else some ((-4), m2)))
  refine j_aload_n (pc := 0) rfl 0 rfl E dX9_customs_0 ?_
  refine j_get (pc := 1) E xuX9 rfl s_0 (k := 1) (by decide) q_390 rfl (xflds_ref rfl) dX9_customs_1 ?_
  refine j_aload_n (pc := 4) rfl 0 rfl E dX9_customs_4 ?_
  refine j_get (pc := 5) E xuX9 rfl s_0 (k := 0) (by decide) q_389 rfl (xflds_ref rfl) dX9_customs_5 ?_
  refine JF.xb (fun y1 m2 h3 => ?_)
  refine j_callVi (pc := 8) (st := []) E (kX7_read h3) mv_X7_read rfl s_11 q_440 [.ref (xa X 1)] rfl rfl rfl (by decide) (Nat.le_of_ble_eq_true rfl) dX9_customs_8 ?_
  refine j_iconst (pc := 11) (v := (-1)) (by decide) E dX9_customs_11 ?_
  refine j_icmp_eq (pc := 12) (tgt := 18) E dX9_customs_12 (by decide) ?_ ?_
  · refine j_iconst (pc := 18) (v := 0) (by decide) E dX9_customs_18 ?_
    refine j_istore_n (pc := 19) (lv1 := [(1, .int 0), (0, .ref (xa X 0))]) E dX9_customs_19 rfl (by decide) rfl ?_
    refine JF.sub [1, 0] rfl ?_
    refine lX9_customs_L20 N _ E R (fun m7 => ?_) N 0 m2
    · refine j_aload_n (pc := 49) rfl 0 rfl E dX9_customs_49 ?_
      refine j_get (pc := 50) E xuX9 rfl s_0 (k := 1) (by decide) q_390 rfl (xflds_ref rfl) dX9_customs_50 ?_
      refine j_get (pc := 53) E xuX7 rfl s_11 (k := 4) (by decide) q_177 rfl (xflds_int rfl) dX9_customs_53 ?_
      refine j_istore_n (pc := 56) (lv1 := [(1, .int (m7 11 4)), (0, .ref (xa X 0))]) E dX9_customs_56 rfl (by decide) rfl ?_
      refine j_aload_n (pc := 57) rfl 1 rfl E dX9_customs_57 ?_
      refine j_get (pc := 58) E xuX9 rfl s_0 (k := 1) (by decide) q_390 rfl (xflds_ref rfl) dX9_customs_58 ?_
      refine JF.xb (fun y8 m9 h10 => ?_)
      refine j_callVi (pc := 61) (st := []) E (kX7_clear h10) mv_X7_clear rfl s_11 q_432 [] rfl rfl rfl (by decide) (Nat.le_of_ble_eq_true rfl) dX9_customs_61 ?_
      refine j_pop (pc := 64) rfl E dX9_customs_64 ?_
      refine j_aload_n (pc := 65) rfl 1 rfl E dX9_customs_65 ?_
      refine j_get (pc := 66) E xuX9 rfl s_0 (k := 2) (by decide) q_391 rfl (xflds_ref rfl) dX9_customs_66 ?_
      refine JF.xb (fun y11 m12 h13 => ?_)
      refine j_callVv (pc := 69) (st := []) E (kX0_begin h13) mv_X0_begin rfl s_29 q_589 [] rfl rfl rfl (by decide) (Nat.le_of_ble_eq_true rfl) dX9_customs_69 ?_
      refine j_aload_n (pc := 72) rfl 1 rfl E dX9_customs_72 ?_
      refine j_get (pc := 73) E xuX9 rfl s_0 (k := 3) (by decide) q_392 rfl (xflds_ref rfl) dX9_customs_73 ?_
      refine JF.xb (fun y14 m15 h16 => ?_)
      refine j_callVi (pc := 76) (st := []) E (kX4_clear xl_44 h16) mv_X4_clear rfl s_44 q_594 [] rfl rfl rfl (by decide) (Nat.le_of_ble_eq_true rfl) dX9_customs_76 ?_
      refine j_pop (pc := 79) rfl E dX9_customs_79 ?_
      refine j_aload_n (pc := 80) rfl 1 rfl E dX9_customs_80 ?_
      refine j_get (pc := 81) E xuX9 rfl s_0 (k := 8) (by decide) q_397 rfl (xflds_ref rfl) dX9_customs_81 ?_
      refine JF.xb (fun y17 m18 h19 => ?_)
      refine j_callVv (pc := 84) (st := []) E (kX5_forget h19) mv_X5_forget rfl s_75 q_598 [] rfl rfl rfl (by decide) (Nat.le_of_ble_eq_true rfl) dX9_customs_84 ?_
      refine j_iload_n (pc := 87) rfl 0 rfl E dX9_customs_87 ?_
      exact j_iret (pc := 88) E R dX9_customs_88
  · refine j_bipush (pc := 15) (v := (-4)) (by decide) E dX9_customs_15 ?_
    exact j_iret (pc := 17) E R dX9_customs_17
def fX9_word (N : Nat) (σ : XS) (p1 : Int32) (p2 : Int32) : Option XO := xB (fX8_isWord N σ p1) (fun y1 m2 => if y1 = 0 then some ((-2), m2) else if p2 = 0 then xB (fX9_at N m2 2 p1) (fun y5 m6 => some (y5, m6)) else if p2 = 1 then xB (fX9_at N m2 3 p1) (fun y9 m10 => some (y9, m10)) else if p2 = 2 then xB (fX9_at N m2 4 p1) (fun y13 m14 => some (y13, m14)) else if p2 = 3 then xB (fX9_at N m2 5 p1) (fun y17 m18 => some (y17, m18)) else some ((-3), m2))
set_option maxRecDepth 100000 in
set_option maxHeartbeats 4000000 in
theorem kX9_word {N : Nat} {σ : XS} {p1 : Int32} {p2 : Int32} {o : XO} (h : fX9_word N σ p1 p2 = some o) : CtI yX9_word cX9_word 3 (some .int) 1 21 (fun Am ad => [.ref (Am 0), .int p1, .int p2]) σ o := by
  refine ct_int (by decide) (fun _ _ => Nat.le_of_ble_eq_true rfl) (fun X E R => ?_)
  rw [← h]
  show JF X o 3 0 [(0, .ref (xa X 0)), (1, .int p1), (2, .int p2)] [] σ (xB (fX8_isWord N σ p1) (fun y1 m2 => if y1 = 0 then some ((-2), m2) else if p2 = 0 then xB (fX9_at N m2 2 p1) (fun y5 m6 => some (y5, m6)) else if p2 = 1 then xB (fX9_at N m2 3 p1) (fun y9 m10 => some (y9, m10)) else if p2 = 2 then xB (fX9_at N m2 4 p1) (fun y13 m14 => some (y13, m14)) else if p2 = 3 then xB (fX9_at N m2 5 p1) (fun y17 m18 => some (y17, m18)) else some ((-3), m2)))
  refine j_aload_n (pc := 0) rfl 0 rfl E dX9_word_0 ?_
  refine j_get (pc := 1) E xuX9 rfl s_0 (k := 0) (by decide) q_389 rfl (xflds_ref rfl) dX9_word_1 ?_
  refine j_iload_n (pc := 4) rfl 1 rfl E dX9_word_4 ?_
  refine JF.xb (fun y1 m2 h3 => ?_)
  refine j_callVi (pc := 5) (st := []) E (kX8_isWord h3) mv_X8_isWord rfl s_1 q_606 [.int p1] rfl rfl rfl (by decide) (Nat.le_of_ble_eq_true rfl) dX9_word_5 ?_
  refine j_if_ne (pc := 8) (tgt := 14) E dX9_word_8 (by decide) ?_ ?_
  · refine j_bipush (pc := 11) (v := (-2)) (by decide) E dX9_word_11 ?_
    exact j_iret (pc := 13) E R dX9_word_13
  · refine j_iload_n (pc := 14) rfl 2 rfl E dX9_word_14 ?_
    refine JF.ite (fun c4 => ?_) (fun c4 => ?_)
    · refine j_tabIn (pc := 15) (tgt := 44) E dX9_word_15 c4 (by decide) (by decide) rfl (by decide) ?_
      refine j_aload_n (pc := 44) rfl 0 rfl E dX9_word_44 ?_
      refine j_get (pc := 45) E xuX9 rfl s_0 (k := 0) (by decide) q_389 rfl (xflds_ref rfl) dX9_word_45 ?_
      refine j_get (pc := 48) E xuX8 rfl s_1 (k := 0) (by decide) q_94 rfl (xflds_ref rfl) dX9_word_48 ?_
      refine j_iload_n (pc := 51) rfl 1 rfl E dX9_word_51 ?_
      refine JF.xb (fun y5 m6 h7 => ?_)
      refine j_callSi (pc := 52) (st := []) E (kX9_at xr_2 h7) mv_X9_at q_610 [.ref (xa X 2), .int p1] rfl rfl rfl (by decide) (Nat.le_of_ble_eq_true rfl) dX9_word_52 ?_
      exact j_iret (pc := 55) E R dX9_word_55
    refine JF.ite (fun c8 => ?_) (fun c8 => ?_)
    · refine j_tabIn (tgt := 56) E dX9_word_15 c8 (by decide) (by decide) rfl (by decide) ?_
      refine j_aload_n (pc := 56) rfl 0 rfl E dX9_word_56 ?_
      refine j_get (pc := 57) E xuX9 rfl s_0 (k := 0) (by decide) q_389 rfl (xflds_ref rfl) dX9_word_57 ?_
      refine j_get (pc := 60) E xuX8 rfl s_1 (k := 1) (by decide) q_99 rfl (xflds_ref rfl) dX9_word_60 ?_
      refine j_iload_n (pc := 63) rfl 1 rfl E dX9_word_63 ?_
      refine JF.xb (fun y9 m10 h11 => ?_)
      refine j_callSi (pc := 64) (st := []) E (kX9_at xr_3 h11) mv_X9_at q_610 [.ref (xa X 3), .int p1] rfl rfl rfl (by decide) (Nat.le_of_ble_eq_true rfl) dX9_word_64 ?_
      exact j_iret (pc := 67) E R dX9_word_67
    refine JF.ite (fun c12 => ?_) (fun c12 => ?_)
    · refine j_tabIn (tgt := 68) E dX9_word_15 c12 (by decide) (by decide) rfl (by decide) ?_
      refine j_aload_n (pc := 68) rfl 0 rfl E dX9_word_68 ?_
      refine j_get (pc := 69) E xuX9 rfl s_0 (k := 0) (by decide) q_389 rfl (xflds_ref rfl) dX9_word_69 ?_
      refine j_get (pc := 72) E xuX8 rfl s_1 (k := 2) (by decide) q_102 rfl (xflds_ref rfl) dX9_word_72 ?_
      refine j_iload_n (pc := 75) rfl 1 rfl E dX9_word_75 ?_
      refine JF.xb (fun y13 m14 h15 => ?_)
      refine j_callSi (pc := 76) (st := []) E (kX9_at xr_4 h15) mv_X9_at q_610 [.ref (xa X 4), .int p1] rfl rfl rfl (by decide) (Nat.le_of_ble_eq_true rfl) dX9_word_76 ?_
      exact j_iret (pc := 79) E R dX9_word_79
    refine JF.ite (fun c16 => ?_) (fun c16 => ?_)
    · refine j_tabIn (tgt := 80) E dX9_word_15 c16 (by decide) (by decide) rfl (by decide) ?_
      refine j_aload_n (pc := 80) rfl 0 rfl E dX9_word_80 ?_
      refine j_get (pc := 81) E xuX9 rfl s_0 (k := 0) (by decide) q_389 rfl (xflds_ref rfl) dX9_word_81 ?_
      refine j_get (pc := 84) E xuX8 rfl s_1 (k := 3) (by decide) q_104 rfl (xflds_ref rfl) dX9_word_84 ?_
      refine j_iload_n (pc := 87) rfl 1 rfl E dX9_word_87 ?_
      refine JF.xb (fun y17 m18 h19 => ?_)
      refine j_callSi (pc := 88) (st := []) E (kX9_at xr_5 h19) mv_X9_at q_610 [.ref (xa X 5), .int p1] rfl rfl rfl (by decide) (Nat.le_of_ble_eq_true rfl) dX9_word_88 ?_
      exact j_iret (pc := 91) E R dX9_word_91
    refine j_tabOut (tgt := 92) E dX9_word_15 (by have := xne c4 (k := 0) (by decide); have := xne c8 (k := 1) (by decide); have := xne c12 (k := 2) (by decide); have := xne c16 (k := 3) (by decide); omega) (by decide) ?_
    refine j_bipush (pc := 92) (v := (-3)) (by decide) E dX9_word_92 ?_
    exact j_iret (pc := 94) E R dX9_word_94
def fX9_ware (N : Nat) (σ : XS) (p1 : Int32) (p2 : Int32) : Option XO := xB (fX8_isWare N σ p1) (fun y1 m2 => if y1 = 0 then some ((-2), m2) else if p2 = 0 then xB (fX9_at N m2 7 p1) (fun y5 m6 => some (y5, m6)) else if p2 = 1 then xB (fX9_at N m2 8 p1) (fun y9 m10 => some (y9, m10)) else if p2 = 2 then xB (fX0_fateOf N m2 p1) (fun y13 m14 => some (y13, m14)) else some ((-3), m2))
set_option maxRecDepth 100000 in
set_option maxHeartbeats 4000000 in
theorem kX9_ware {N : Nat} {σ : XS} {p1 : Int32} {p2 : Int32} {o : XO} (h : fX9_ware N σ p1 p2 = some o) : CtI yX9_ware cX9_ware 3 (some .int) 1 21 (fun Am ad => [.ref (Am 0), .int p1, .int p2]) σ o := by
  refine ct_int (by decide) (fun _ _ => Nat.le_of_ble_eq_true rfl) (fun X E R => ?_)
  rw [← h]
  show JF X o 3 0 [(0, .ref (xa X 0)), (1, .int p1), (2, .int p2)] [] σ (xB (fX8_isWare N σ p1) (fun y1 m2 => if y1 = 0 then some ((-2), m2) else if p2 = 0 then xB (fX9_at N m2 7 p1) (fun y5 m6 => some (y5, m6)) else if p2 = 1 then xB (fX9_at N m2 8 p1) (fun y9 m10 => some (y9, m10)) else if p2 = 2 then xB (fX0_fateOf N m2 p1) (fun y13 m14 => some (y13, m14)) else some ((-3), m2)))
  refine j_aload_n (pc := 0) rfl 0 rfl E dX9_ware_0 ?_
  refine j_get (pc := 1) E xuX9 rfl s_0 (k := 0) (by decide) q_389 rfl (xflds_ref rfl) dX9_ware_1 ?_
  refine j_iload_n (pc := 4) rfl 1 rfl E dX9_ware_4 ?_
  refine JF.xb (fun y1 m2 h3 => ?_)
  refine j_callVi (pc := 5) (st := []) E (kX8_isWare h3) mv_X8_isWare rfl s_1 q_617 [.int p1] rfl rfl rfl (by decide) (Nat.le_of_ble_eq_true rfl) dX9_ware_5 ?_
  refine j_if_ne (pc := 8) (tgt := 14) E dX9_ware_8 (by decide) ?_ ?_
  · refine j_bipush (pc := 11) (v := (-2)) (by decide) E dX9_ware_11 ?_
    exact j_iret (pc := 13) E R dX9_ware_13
  · refine j_iload_n (pc := 14) rfl 2 rfl E dX9_ware_14 ?_
    refine JF.ite (fun c4 => ?_) (fun c4 => ?_)
    · refine j_tabIn (pc := 15) (tgt := 40) E dX9_ware_15 c4 (by decide) (by decide) rfl (by decide) ?_
      refine j_aload_n (pc := 40) rfl 0 rfl E dX9_ware_40 ?_
      refine j_get (pc := 41) E xuX9 rfl s_0 (k := 0) (by decide) q_389 rfl (xflds_ref rfl) dX9_ware_41 ?_
      refine j_get (pc := 44) E xuX8 rfl s_1 (k := 5) (by decide) q_109 rfl (xflds_ref rfl) dX9_ware_44 ?_
      refine j_iload_n (pc := 47) rfl 1 rfl E dX9_ware_47 ?_
      refine JF.xb (fun y5 m6 h7 => ?_)
      refine j_callSi (pc := 48) (st := []) E (kX9_at xr_7 h7) mv_X9_at q_610 [.ref (xa X 7), .int p1] rfl rfl rfl (by decide) (Nat.le_of_ble_eq_true rfl) dX9_ware_48 ?_
      exact j_iret (pc := 51) E R dX9_ware_51
    refine JF.ite (fun c8 => ?_) (fun c8 => ?_)
    · refine j_tabIn (tgt := 52) E dX9_ware_15 c8 (by decide) (by decide) rfl (by decide) ?_
      refine j_aload_n (pc := 52) rfl 0 rfl E dX9_ware_52 ?_
      refine j_get (pc := 53) E xuX9 rfl s_0 (k := 0) (by decide) q_389 rfl (xflds_ref rfl) dX9_ware_53 ?_
      refine j_get (pc := 56) E xuX8 rfl s_1 (k := 6) (by decide) q_112 rfl (xflds_ref rfl) dX9_ware_56 ?_
      refine j_iload_n (pc := 59) rfl 1 rfl E dX9_ware_59 ?_
      refine JF.xb (fun y9 m10 h11 => ?_)
      refine j_callSi (pc := 60) (st := []) E (kX9_at xr_8 h11) mv_X9_at q_610 [.ref (xa X 8), .int p1] rfl rfl rfl (by decide) (Nat.le_of_ble_eq_true rfl) dX9_ware_60 ?_
      exact j_iret (pc := 63) E R dX9_ware_63
    refine JF.ite (fun c12 => ?_) (fun c12 => ?_)
    · refine j_tabIn (tgt := 64) E dX9_ware_15 c12 (by decide) (by decide) rfl (by decide) ?_
      refine j_aload_n (pc := 64) rfl 0 rfl E dX9_ware_64 ?_
      refine j_get (pc := 65) E xuX9 rfl s_0 (k := 2) (by decide) q_391 rfl (xflds_ref rfl) dX9_ware_65 ?_
      refine j_iload_n (pc := 68) rfl 1 rfl E dX9_ware_68 ?_
      refine JF.xb (fun y13 m14 h15 => ?_)
      refine j_callVi (pc := 69) (st := []) E (kX0_fateOf h15) mv_X0_fateOf rfl s_29 q_621 [.int p1] rfl rfl rfl (by decide) (Nat.le_of_ble_eq_true rfl) dX9_ware_69 ?_
      exact j_iret (pc := 72) E R dX9_ware_72
    refine j_tabOut (tgt := 73) E dX9_ware_15 (by have := xne c4 (k := 0) (by decide); have := xne c8 (k := 1) (by decide); have := xne c12 (k := 2) (by decide); omega) (by decide) ?_
    refine j_bipush (pc := 73) (v := (-3)) (by decide) E dX9_ware_73 ?_
    exact j_iret (pc := 75) E R dX9_ware_75
def fX9_clerk (N : Nat) (σ : XS) (p1 : Int32) : Option XO := xB (fX8_isClerk N σ p1) (fun y1 m2 => if y1 = 0 then some ((-2), m2) else xB (fX9_at N m2 9 p1) (fun y4 m5 => some (y4, m5)))
set_option maxRecDepth 100000 in
set_option maxHeartbeats 4000000 in
theorem kX9_clerk {N : Nat} {σ : XS} {p1 : Int32} {o : XO} (h : fX9_clerk N σ p1 = some o) : CtI yX9_clerk cX9_clerk 2 (some .int) 1 21 (fun Am ad => [.ref (Am 0), .int p1]) σ o := by
  refine ct_int (by decide) (fun _ _ => Nat.le_of_ble_eq_true rfl) (fun X E R => ?_)
  rw [← h]
  show JF X o 2 0 [(0, .ref (xa X 0)), (1, .int p1)] [] σ (xB (fX8_isClerk N σ p1) (fun y1 m2 => if y1 = 0 then some ((-2), m2) else xB (fX9_at N m2 9 p1) (fun y4 m5 => some (y4, m5))))
  refine j_aload_n (pc := 0) rfl 0 rfl E dX9_clerk_0 ?_
  refine j_get (pc := 1) E xuX9 rfl s_0 (k := 0) (by decide) q_389 rfl (xflds_ref rfl) dX9_clerk_1 ?_
  refine j_iload_n (pc := 4) rfl 1 rfl E dX9_clerk_4 ?_
  refine JF.xb (fun y1 m2 h3 => ?_)
  refine j_callVi (pc := 5) (st := []) E (kX8_isClerk h3) mv_X8_isClerk rfl s_1 q_629 [.int p1] rfl rfl rfl (by decide) (Nat.le_of_ble_eq_true rfl) dX9_clerk_5 ?_
  refine j_if_ne (pc := 8) (tgt := 14) E dX9_clerk_8 (by decide) ?_ ?_
  · refine j_bipush (pc := 11) (v := (-2)) (by decide) E dX9_clerk_11 ?_
    exact j_iret (pc := 13) E R dX9_clerk_13
  · refine j_aload_n (pc := 14) rfl 0 rfl E dX9_clerk_14 ?_
    refine j_get (pc := 15) E xuX9 rfl s_0 (k := 0) (by decide) q_389 rfl (xflds_ref rfl) dX9_clerk_15 ?_
    refine j_get (pc := 18) E xuX8 rfl s_1 (k := 7) (by decide) q_114 rfl (xflds_ref rfl) dX9_clerk_18 ?_
    refine j_iload_n (pc := 21) rfl 1 rfl E dX9_clerk_21 ?_
    refine JF.xb (fun y4 m5 h6 => ?_)
    refine j_callSi (pc := 22) (st := []) E (kX9_at xr_9 h6) mv_X9_at q_610 [.ref (xa X 9), .int p1] rfl rfl rfl (by decide) (Nat.le_of_ble_eq_true rfl) dX9_clerk_22 ?_
    exact j_iret (pc := 25) E R dX9_clerk_25
def fX9_rhyme (N : Nat) (σ : XS) (p1 : Int32) (p2 : Int32) : Option XO := if p1 < 0 then some ((-2), σ) else if p1 < 6 then if p2 = 0 then xB (fX0_usesOf N σ p1) (fun y2 m3 => some (y2, m3)) else if p2 = 1 then xB (fX9_at N σ 10 p1) (fun y6 m7 => some (y6, m7)) else if p2 = 2 then xB (fX8_portsOf N σ p1) (fun y10 m11 => some (y10, m11)) else some ((-3), σ) else some ((-2), σ)
set_option maxRecDepth 100000 in
set_option maxHeartbeats 4000000 in
theorem kX9_rhyme {N : Nat} {σ : XS} {p1 : Int32} {p2 : Int32} {o : XO} (h : fX9_rhyme N σ p1 p2 = some o) : CtI yX9_rhyme cX9_rhyme 3 (some .int) 1 23 (fun Am ad => [.ref (Am 0), .int p1, .int p2]) σ o := by
  refine ct_int (by decide) (fun _ _ => Nat.le_of_ble_eq_true rfl) (fun X E R => ?_)
  rw [← h]
  show JF X o 3 0 [(0, .ref (xa X 0)), (1, .int p1), (2, .int p2)] [] σ (if p1 < 0 then some ((-2), σ) else if p1 < 6 then if p2 = 0 then xB (fX0_usesOf N σ p1) (fun y2 m3 => some (y2, m3)) else if p2 = 1 then xB (fX9_at N σ 10 p1) (fun y6 m7 => some (y6, m7)) else if p2 = 2 then xB (fX8_portsOf N σ p1) (fun y10 m11 => some (y10, m11)) else some ((-3), σ) else some ((-2), σ))
  refine j_iload_n (pc := 0) rfl 1 rfl E dX9_rhyme_0 ?_
  refine j_if_lt (pc := 1) (tgt := 10) E dX9_rhyme_1 (by decide) ?_ ?_
  · refine j_bipush (pc := 10) (v := (-2)) (by decide) E dX9_rhyme_10 ?_
    exact j_iret (pc := 12) E R dX9_rhyme_12
  · refine j_iload_n (pc := 4) rfl 1 rfl E dX9_rhyme_4 ?_
    refine j_bipush (pc := 5) (v := 6) (by decide) E dX9_rhyme_5 ?_
    refine j_icmp_lt (pc := 7) (tgt := 13) E dX9_rhyme_7 (by decide) ?_ ?_
    · refine j_iload_n (pc := 13) rfl 2 rfl E dX9_rhyme_13 ?_
      refine JF.ite (fun c1 => ?_) (fun c1 => ?_)
      · refine j_tabIn (pc := 14) (tgt := 40) E dX9_rhyme_14 c1 (by decide) (by decide) rfl (by decide) ?_
        refine j_aload_n (pc := 40) rfl 0 rfl E dX9_rhyme_40 ?_
        refine j_get (pc := 41) E xuX9 rfl s_0 (k := 2) (by decide) q_391 rfl (xflds_ref rfl) dX9_rhyme_41 ?_
        refine j_iload_n (pc := 44) rfl 1 rfl E dX9_rhyme_44 ?_
        refine JF.xb (fun y2 m3 h4 => ?_)
        refine j_callVi (pc := 45) (st := []) E (kX0_usesOf h4) mv_X0_usesOf rfl s_29 q_637 [.int p1] rfl rfl rfl (by decide) (Nat.le_of_ble_eq_true rfl) dX9_rhyme_45 ?_
        exact j_iret (pc := 48) E R dX9_rhyme_48
      refine JF.ite (fun c5 => ?_) (fun c5 => ?_)
      · refine j_tabIn (tgt := 49) E dX9_rhyme_14 c5 (by decide) (by decide) rfl (by decide) ?_
        refine j_aload_n (pc := 49) rfl 0 rfl E dX9_rhyme_49 ?_
        refine j_get (pc := 50) E xuX9 rfl s_0 (k := 0) (by decide) q_389 rfl (xflds_ref rfl) dX9_rhyme_50 ?_
        refine j_get (pc := 53) E xuX8 rfl s_1 (k := 8) (by decide) q_116 rfl (xflds_ref rfl) dX9_rhyme_53 ?_
        refine j_iload_n (pc := 56) rfl 1 rfl E dX9_rhyme_56 ?_
        refine JF.xb (fun y6 m7 h8 => ?_)
        refine j_callSi (pc := 57) (st := []) E (kX9_at xr_10 h8) mv_X9_at q_610 [.ref (xa X 10), .int p1] rfl rfl rfl (by decide) (Nat.le_of_ble_eq_true rfl) dX9_rhyme_57 ?_
        exact j_iret (pc := 60) E R dX9_rhyme_60
      refine JF.ite (fun c9 => ?_) (fun c9 => ?_)
      · refine j_tabIn (tgt := 61) E dX9_rhyme_14 c9 (by decide) (by decide) rfl (by decide) ?_
        refine j_aload_n (pc := 61) rfl 0 rfl E dX9_rhyme_61 ?_
        refine j_get (pc := 62) E xuX9 rfl s_0 (k := 0) (by decide) q_389 rfl (xflds_ref rfl) dX9_rhyme_62 ?_
        refine j_iload_n (pc := 65) rfl 1 rfl E dX9_rhyme_65 ?_
        refine JF.xb (fun y10 m11 h12 => ?_)
        refine j_callVi (pc := 66) (st := []) E (kX8_portsOf h12) mv_X8_portsOf rfl s_1 q_641 [.int p1] rfl rfl rfl (by decide) (Nat.le_of_ble_eq_true rfl) dX9_rhyme_66 ?_
        exact j_iret (pc := 69) E R dX9_rhyme_69
      refine j_tabOut (tgt := 70) E dX9_rhyme_14 (by have := xne c1 (k := 0) (by decide); have := xne c5 (k := 1) (by decide); have := xne c9 (k := 2) (by decide); omega) (by decide) ?_
      refine j_bipush (pc := 70) (v := (-3)) (by decide) E dX9_rhyme_70 ?_
      exact j_iret (pc := 72) E R dX9_rhyme_72
    · refine j_bipush (pc := 10) (v := (-2)) (by decide) E dX9_rhyme_10 ?_
      exact j_iret (pc := 12) E R dX9_rhyme_12
def fX9_as (N : Nat) (σ : XS) (p1 : Int32) (p2 : Int32) : Option XO := xB (fX8_isWord N σ p1) (fun y1 m2 => if y1 = 0 then some ((-2), m2) else if p2 < 0 then some ((-3), m2) else if p2 < 5 then xB (fX9_at N m2 2 p1) (fun y4 m5 => xB (fatW N m5 200 y4) (fun y7 m8 => xB (fX9_hasBit N m8 y7 p2) (fun y10 m11 => if y10 = 0 then some ((-4), m11) else xB (fX8_portsRhymedBy N m11 p1) (fun y13 m14 => some (y13, m14))))) else some ((-3), m2))
set_option maxRecDepth 100000 in
set_option maxHeartbeats 4000000 in
theorem kX9_as {N : Nat} {σ : XS} {p1 : Int32} {p2 : Int32} {o : XO} (h : fX9_as N σ p1 p2 = some o) : CtI yX9_as cX9_as 3 (some .int) 2 44 (fun Am ad => [.ref (Am 0), .int p1, .int p2]) σ o := by
  refine ct_int (by decide) (fun _ _ => Nat.le_of_ble_eq_true rfl) (fun X E R => ?_)
  rw [← h]
  show JF X o 3 0 [(0, .ref (xa X 0)), (1, .int p1), (2, .int p2)] [] σ (xB (fX8_isWord N σ p1) (fun y1 m2 => if y1 = 0 then some ((-2), m2) else if p2 < 0 then some ((-3), m2) else if p2 < 5 then xB (fX9_at N m2 2 p1) (fun y4 m5 => xB (fatW N m5 200 y4) (fun y7 m8 => xB (fX9_hasBit N m8 y7 p2) (fun y10 m11 => if y10 = 0 then some ((-4), m11) else xB (fX8_portsRhymedBy N m11 p1) (fun y13 m14 => some (y13, m14))))) else some ((-3), m2)))
  refine j_aload_n (pc := 0) rfl 0 rfl E dX9_as_0 ?_
  refine j_get (pc := 1) E xuX9 rfl s_0 (k := 0) (by decide) q_389 rfl (xflds_ref rfl) dX9_as_1 ?_
  refine j_iload_n (pc := 4) rfl 1 rfl E dX9_as_4 ?_
  refine JF.xb (fun y1 m2 h3 => ?_)
  refine j_callVi (pc := 5) (st := []) E (kX8_isWord h3) mv_X8_isWord rfl s_1 q_606 [.int p1] rfl rfl rfl (by decide) (Nat.le_of_ble_eq_true rfl) dX9_as_5 ?_
  refine j_if_ne (pc := 8) (tgt := 14) E dX9_as_8 (by decide) ?_ ?_
  · refine j_bipush (pc := 11) (v := (-2)) (by decide) E dX9_as_11 ?_
    exact j_iret (pc := 13) E R dX9_as_13
  · refine j_iload_n (pc := 14) rfl 2 rfl E dX9_as_14 ?_
    refine j_if_lt (pc := 15) (tgt := 23) E dX9_as_15 (by decide) ?_ ?_
    · refine j_bipush (pc := 23) (v := (-3)) (by decide) E dX9_as_23 ?_
      exact j_iret (pc := 25) E R dX9_as_25
    · refine j_iload_n (pc := 18) rfl 2 rfl E dX9_as_18 ?_
      refine j_iconst (pc := 19) (v := 5) (by decide) E dX9_as_19 ?_
      refine j_icmp_lt (pc := 20) (tgt := 26) E dX9_as_20 (by decide) ?_ ?_
      · refine j_gets200 (pc := 26) E q_649 dX9_as_26 ?_
        refine j_aload_n (pc := 29) rfl 0 rfl E dX9_as_29 ?_
        refine j_get (pc := 30) E xuX9 rfl s_0 (k := 0) (by decide) q_389 rfl (xflds_ref rfl) dX9_as_30 ?_
        refine j_get (pc := 33) E xuX8 rfl s_1 (k := 0) (by decide) q_94 rfl (xflds_ref rfl) dX9_as_33 ?_
        refine j_iload_n (pc := 36) rfl 1 rfl E dX9_as_36 ?_
        refine JF.xb (fun y4 m5 h6 => ?_)
        refine j_callSi (pc := 37) (st := [.ref (xk X 200)]) E (kX9_at xr_2 h6) mv_X9_at q_610 [.ref (xa X 2), .int p1] rfl rfl rfl (by decide) (Nat.le_of_ble_eq_true rfl) dX9_as_37 ?_
        refine JF.xb (fun y7 m8 h9 => ?_)
        refine j_callSi (pc := 40) (st := []) E (katW (by decide) h9) mv_X9_at q_610 [.ref (xk X 200), .int y4] rfl rfl rfl (by decide) (Nat.le_of_ble_eq_true rfl) dX9_as_40 ?_
        refine j_iload_n (pc := 43) rfl 2 rfl E dX9_as_43 ?_
        refine JF.xb (fun y10 m11 h12 => ?_)
        refine j_callSi (pc := 44) (st := []) E (kX9_hasBit h12) mv_X9_hasBit q_651 [.int y7, .int p2] rfl rfl rfl (by decide) (Nat.le_of_ble_eq_true rfl) dX9_as_44 ?_
        refine j_if_ne (pc := 47) (tgt := 53) E dX9_as_47 (by decide) ?_ ?_
        · refine j_bipush (pc := 50) (v := (-4)) (by decide) E dX9_as_50 ?_
          exact j_iret (pc := 52) E R dX9_as_52
        · refine j_aload_n (pc := 53) rfl 0 rfl E dX9_as_53 ?_
          refine j_get (pc := 54) E xuX9 rfl s_0 (k := 0) (by decide) q_389 rfl (xflds_ref rfl) dX9_as_54 ?_
          refine j_iload_n (pc := 57) rfl 1 rfl E dX9_as_57 ?_
          refine JF.xb (fun y13 m14 h15 => ?_)
          refine j_callVi (pc := 58) (st := []) E (kX8_portsRhymedBy h15) mv_X8_portsRhymedBy rfl s_1 q_654 [.int p1] rfl rfl rfl (by decide) (Nat.le_of_ble_eq_true rfl) dX9_as_58 ?_
          exact j_iret (pc := 61) E R dX9_as_61
      · refine j_bipush (pc := 23) (v := (-3)) (by decide) E dX9_as_23 ?_
        exact j_iret (pc := 25) E R dX9_as_25
def fX9_clerkAs (N : Nat) (σ : XS) (p1 : Int32) (p2 : Int32) : Option XO := xB (fX8_isClerk N σ p1) (fun y1 m2 => if y1 = 0 then some ((-2), m2) else if p2 < 0 then some ((-3), m2) else if p2 < 4 then xB (fX9_at N m2 9 p1) (fun y4 m5 => xB (fatW N m5 201 y4) (fun y7 m8 => xB (fX9_hasBit N m8 y7 p2) (fun y10 m11 => if y10 = 0 then some ((-4), m11) else xB (fX8_countBy N m11 p1 44) (fun y13 m14 => some (y13, m14))))) else some ((-3), m2))
set_option maxRecDepth 100000 in
set_option maxHeartbeats 4000000 in
theorem kX9_clerkAs {N : Nat} {σ : XS} {p1 : Int32} {p2 : Int32} {o : XO} (h : fX9_clerkAs N σ p1 p2 = some o) : CtI yX9_clerkAs cX9_clerkAs 3 (some .int) 3 67 (fun Am ad => [.ref (Am 0), .int p1, .int p2]) σ o := by
  refine ct_int (by decide) (fun _ _ => Nat.le_of_ble_eq_true rfl) (fun X E R => ?_)
  rw [← h]
  show JF X o 3 0 [(0, .ref (xa X 0)), (1, .int p1), (2, .int p2)] [] σ (xB (fX8_isClerk N σ p1) (fun y1 m2 => if y1 = 0 then some ((-2), m2) else if p2 < 0 then some ((-3), m2) else if p2 < 4 then xB (fX9_at N m2 9 p1) (fun y4 m5 => xB (fatW N m5 201 y4) (fun y7 m8 => xB (fX9_hasBit N m8 y7 p2) (fun y10 m11 => if y10 = 0 then some ((-4), m11) else xB (fX8_countBy N m11 p1 44) (fun y13 m14 => some (y13, m14))))) else some ((-3), m2)))
  refine j_aload_n (pc := 0) rfl 0 rfl E dX9_clerkAs_0 ?_
  refine j_get (pc := 1) E xuX9 rfl s_0 (k := 0) (by decide) q_389 rfl (xflds_ref rfl) dX9_clerkAs_1 ?_
  refine j_iload_n (pc := 4) rfl 1 rfl E dX9_clerkAs_4 ?_
  refine JF.xb (fun y1 m2 h3 => ?_)
  refine j_callVi (pc := 5) (st := []) E (kX8_isClerk h3) mv_X8_isClerk rfl s_1 q_629 [.int p1] rfl rfl rfl (by decide) (Nat.le_of_ble_eq_true rfl) dX9_clerkAs_5 ?_
  refine j_if_ne (pc := 8) (tgt := 14) E dX9_clerkAs_8 (by decide) ?_ ?_
  · refine j_bipush (pc := 11) (v := (-2)) (by decide) E dX9_clerkAs_11 ?_
    exact j_iret (pc := 13) E R dX9_clerkAs_13
  · refine j_iload_n (pc := 14) rfl 2 rfl E dX9_clerkAs_14 ?_
    refine j_if_lt (pc := 15) (tgt := 23) E dX9_clerkAs_15 (by decide) ?_ ?_
    · refine j_bipush (pc := 23) (v := (-3)) (by decide) E dX9_clerkAs_23 ?_
      exact j_iret (pc := 25) E R dX9_clerkAs_25
    · refine j_iload_n (pc := 18) rfl 2 rfl E dX9_clerkAs_18 ?_
      refine j_iconst (pc := 19) (v := 4) (by decide) E dX9_clerkAs_19 ?_
      refine j_icmp_lt (pc := 20) (tgt := 26) E dX9_clerkAs_20 (by decide) ?_ ?_
      · refine j_gets201 (pc := 26) E q_664 dX9_clerkAs_26 ?_
        refine j_aload_n (pc := 29) rfl 0 rfl E dX9_clerkAs_29 ?_
        refine j_get (pc := 30) E xuX9 rfl s_0 (k := 0) (by decide) q_389 rfl (xflds_ref rfl) dX9_clerkAs_30 ?_
        refine j_get (pc := 33) E xuX8 rfl s_1 (k := 7) (by decide) q_114 rfl (xflds_ref rfl) dX9_clerkAs_33 ?_
        refine j_iload_n (pc := 36) rfl 1 rfl E dX9_clerkAs_36 ?_
        refine JF.xb (fun y4 m5 h6 => ?_)
        refine j_callSi (pc := 37) (st := [.ref (xk X 201)]) E (kX9_at xr_9 h6) mv_X9_at q_610 [.ref (xa X 9), .int p1] rfl rfl rfl (by decide) (Nat.le_of_ble_eq_true rfl) dX9_clerkAs_37 ?_
        refine JF.xb (fun y7 m8 h9 => ?_)
        refine j_callSi (pc := 40) (st := []) E (katW (by decide) h9) mv_X9_at q_610 [.ref (xk X 201), .int y4] rfl rfl rfl (by decide) (Nat.le_of_ble_eq_true rfl) dX9_clerkAs_40 ?_
        refine j_iload_n (pc := 43) rfl 2 rfl E dX9_clerkAs_43 ?_
        refine JF.xb (fun y10 m11 h12 => ?_)
        refine j_callSi (pc := 44) (st := []) E (kX9_hasBit h12) mv_X9_hasBit q_651 [.int y7, .int p2] rfl rfl rfl (by decide) (Nat.le_of_ble_eq_true rfl) dX9_clerkAs_44 ?_
        refine j_if_ne (pc := 47) (tgt := 53) E dX9_clerkAs_47 (by decide) ?_ ?_
        · refine j_bipush (pc := 50) (v := (-4)) (by decide) E dX9_clerkAs_50 ?_
          exact j_iret (pc := 52) E R dX9_clerkAs_52
        · refine j_aload_n (pc := 53) rfl 0 rfl E dX9_clerkAs_53 ?_
          refine j_get (pc := 54) E xuX9 rfl s_0 (k := 0) (by decide) q_389 rfl (xflds_ref rfl) dX9_clerkAs_54 ?_
          refine j_iload_n (pc := 57) rfl 1 rfl E dX9_clerkAs_57 ?_
          refine j_aload_n (pc := 58) rfl 0 rfl E dX9_clerkAs_58 ?_
          refine j_get (pc := 59) E xuX9 rfl s_0 (k := 3) (by decide) q_392 rfl (xflds_ref rfl) dX9_clerkAs_59 ?_
          refine JF.xb (fun y13 m14 h15 => ?_)
          refine j_callVi (pc := 62) (st := []) E (kX8_countBy xl_44 h15) mv_X8_countBy rfl s_1 q_666 [.int p1, .ref (xa X 44)] rfl rfl rfl (by decide) (Nat.le_of_ble_eq_true rfl) dX9_clerkAs_62 ?_
          exact j_iret (pc := 65) E R dX9_clerkAs_65
      · refine j_bipush (pc := 23) (v := (-3)) (by decide) E dX9_clerkAs_23 ?_
        exact j_iret (pc := 25) E R dX9_clerkAs_25
def fX9_put (N : Nat) (σ : XS) (p1 : Int32) : Option XO := xB (fX8_isWord N σ p1) (fun y1 m2 => if y1 = 0 then some ((-2), m2) else if (m2 44 1) < 6 then xB (fX4_add N m2 44 p1) (fun y4 m5 => some (y4, m5)) else some ((-5), m2))
set_option maxRecDepth 100000 in
set_option maxHeartbeats 4000000 in
theorem kX9_put {N : Nat} {σ : XS} {p1 : Int32} {o : XO} (h : fX9_put N σ p1 = some o) : CtI yX9_put cX9_put 2 (some .int) 1 21 (fun Am ad => [.ref (Am 0), .int p1]) σ o := by
  refine ct_int (by decide) (fun _ _ => Nat.le_of_ble_eq_true rfl) (fun X E R => ?_)
  rw [← h]
  show JF X o 2 0 [(0, .ref (xa X 0)), (1, .int p1)] [] σ (xB (fX8_isWord N σ p1) (fun y1 m2 => if y1 = 0 then some ((-2), m2) else if (m2 44 1) < 6 then xB (fX4_add N m2 44 p1) (fun y4 m5 => some (y4, m5)) else some ((-5), m2)))
  refine j_aload_n (pc := 0) rfl 0 rfl E dX9_put_0 ?_
  refine j_get (pc := 1) E xuX9 rfl s_0 (k := 0) (by decide) q_389 rfl (xflds_ref rfl) dX9_put_1 ?_
  refine j_iload_n (pc := 4) rfl 1 rfl E dX9_put_4 ?_
  refine JF.xb (fun y1 m2 h3 => ?_)
  refine j_callVi (pc := 5) (st := []) E (kX8_isWord h3) mv_X8_isWord rfl s_1 q_606 [.int p1] rfl rfl rfl (by decide) (Nat.le_of_ble_eq_true rfl) dX9_put_5 ?_
  refine j_if_ne (pc := 8) (tgt := 14) E dX9_put_8 (by decide) ?_ ?_
  · refine j_bipush (pc := 11) (v := (-2)) (by decide) E dX9_put_11 ?_
    exact j_iret (pc := 13) E R dX9_put_13
  · refine j_aload_n (pc := 14) rfl 0 rfl E dX9_put_14 ?_
    refine j_get (pc := 15) E xuX9 rfl s_0 (k := 3) (by decide) q_392 rfl (xflds_ref rfl) dX9_put_15 ?_
    refine j_get (pc := 18) E xuX4 rfl s_44 (k := 1) (by decide) q_243 rfl (xflds_int rfl) dX9_put_18 ?_
    refine j_bipush (pc := 21) (v := 6) (by decide) E dX9_put_21 ?_
    refine j_icmp_lt (pc := 23) (tgt := 29) E dX9_put_23 (by decide) ?_ ?_
    · refine j_aload_n (pc := 29) rfl 0 rfl E dX9_put_29 ?_
      refine j_get (pc := 30) E xuX9 rfl s_0 (k := 3) (by decide) q_392 rfl (xflds_ref rfl) dX9_put_30 ?_
      refine j_iload_n (pc := 33) rfl 1 rfl E dX9_put_33 ?_
      refine JF.xb (fun y4 m5 h6 => ?_)
      refine j_callVi (pc := 34) (st := []) E (kX4_add xl_44 h6) mv_X4_add rfl s_44 q_690 [.int p1] rfl rfl rfl (by decide) (Nat.le_of_ble_eq_true rfl) dX9_put_34 ?_
      exact j_iret (pc := 37) E R dX9_put_37
    · refine j_bipush (pc := 26) (v := (-5)) (by decide) E dX9_put_26 ?_
      exact j_iret (pc := 28) E R dX9_put_28
def fX9_wipe (N : Nat) (σ : XS) : Option XO := xB (fX4_clear N σ 44) (fun y1 m2 => some (y1, m2))
set_option maxRecDepth 100000 in
set_option maxHeartbeats 4000000 in
theorem kX9_wipe {N : Nat} {σ : XS} {o : XO} (h : fX9_wipe N σ = some o) : CtI yX9_wipe cX9_wipe 1 (some .int) 1 21 (fun Am ad => [.ref (Am 0)]) σ o := by
  refine ct_int (by decide) (fun _ _ => Nat.le_of_ble_eq_true rfl) (fun X E R => ?_)
  rw [← h]
  show JF X o 1 0 [(0, .ref (xa X 0))] [] σ (xB (fX4_clear N σ 44) (fun y1 m2 => some (y1, m2)))
  refine j_aload_n (pc := 0) rfl 0 rfl E dX9_wipe_0 ?_
  refine j_get (pc := 1) E xuX9 rfl s_0 (k := 3) (by decide) q_392 rfl (xflds_ref rfl) dX9_wipe_1 ?_
  refine JF.xb (fun y1 m2 h3 => ?_)
  refine j_callVi (pc := 4) (st := []) E (kX4_clear xl_44 h3) mv_X4_clear rfl s_44 q_594 [] rfl rfl rfl (by decide) (Nat.le_of_ble_eq_true rfl) dX9_wipe_4 ?_
  exact j_iret (pc := 7) E R dX9_wipe_7
