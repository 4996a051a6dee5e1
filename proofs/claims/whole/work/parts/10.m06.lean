def fX9_paidInYear (N : Nat) (σ : XS) (p1 : Int32) : Option XO := xB (fX9_at N σ 7 p1) (fun y1 m2 => xB (fX1_ask N m2 p1 0) (fun _ m5 => xB (fX2_fewestWords N m5) (fun y7 m8 => xB (fX2_findFirst N m8 y7) (fun _ m11 => if (m11 64 1) = 0 then some ((3 * y1), m11) else xB (fX4_lastWord N m11 64) (fun y13 m14 => xB (fX8_rhymeWornBy N m14 y13) (fun y16 m17 => xB (fX9_at N m17 84 y16) (fun y19 m20 => xB (fX8_isWorn N m20 y16 y19) (fun y22 m23 => if y22 = 0 then if y16 < 0 then some (y1, m23) else if 6 ≤ y16 then some (y1, m23) else gd (xin y16 6) (xLet (xUp m23 84 y16.toNatClampNeg ((m23 84 y16.toNatClampNeg) + 1)) (fun m25 => gd (xin y16 6) (some (y1, m25)))) else some ((3 * y1), m23)))))))))
set_option maxRecDepth 100000 in
set_option maxHeartbeats 4000000 in
theorem kX9_paidInYear {N : Nat} {σ : XS} {p1 : Int32} {o : XO} (h : fX9_paidInYear N σ p1 = some o) : CtI yX9_paidInYear cX9_paidInYear 4 (some .int) 6 141 (fun Am ad => [.ref (Am 0), .int p1]) σ o := by
  refine ct_int (by decide) (fun _ _ => Nat.le_of_ble_eq_true rfl) (fun X E R => ?_)
  rw [← h]
  show JF X o 4 0 [(0, .ref (xa X 0)), (1, .int p1)] [] σ (xB (fX9_at N σ 7 p1) (fun y1 m2 => xB (fX1_ask N m2 p1 0) (fun _ m5 => xB (fX2_fewestWords N m5) (fun y7 m8 => xB (fX2_findFirst N m8 y7) (fun _ m11 => if (m11 64 1) = 0 then some ((3 * y1), m11) else xB (fX4_lastWord N m11 64) (fun y13 m14 => xB (fX8_rhymeWornBy N m14 y13) (fun y16 m17 => xB (fX9_at N m17 84 y16) (fun y19 m20 => xB (fX8_isWorn N m20 y16 y19) (fun y22 m23 => if y22 = 0 then if y16 < 0 then some (y1, m23) else if 6 ≤ y16 then some (y1, m23) else gd (xin y16 6) (xLet (xUp m23 84 y16.toNatClampNeg ((m23 84 y16.toNatClampNeg) + 1)) (fun m25 => gd (xin y16 6) (some (y1, m25)))) else some ((3 * y1), m23))))))))))
  refine j_aload_n (pc := 0) rfl 0 rfl E dX9_paidInYear_0 ?_
  refine j_get (pc := 1) E xuX9 rfl s_0 (k := 0) (by decide) q_389 rfl (xflds_ref rfl) dX9_paidInYear_1 ?_
  refine j_get (pc := 4) E xuX8 rfl s_1 (k := 5) (by decide) q_109 rfl (xflds_ref rfl) dX9_paidInYear_4 ?_
  refine j_iload_n (pc := 7) rfl 1 rfl E dX9_paidInYear_7 ?_
  refine JF.xb (fun y1 m2 h3 => ?_)
  refine j_callSi (pc := 8) (st := []) E (kX9_at xr_7 h3) mv_X9_at q_610 [.ref (xa X 7), .int p1] rfl rfl rfl (by decide) (Nat.le_of_ble_eq_true rfl) dX9_paidInYear_8 ?_
  refine j_istore_n (pc := 11) (lv1 := [(2, .int y1), (0, .ref (xa X 0)), (1, .int p1)]) E dX9_paidInYear_11 rfl (by decide) rfl ?_
  refine j_aload_n (pc := 12) rfl 1 rfl E dX9_paidInYear_12 ?_
  refine j_get (pc := 13) E xuX9 rfl s_0 (k := 4) (by decide) q_393 rfl (xflds_ref rfl) dX9_paidInYear_13 ?_
  refine j_iload_n (pc := 16) rfl 2 rfl E dX9_paidInYear_16 ?_
  refine j_iconst (pc := 17) (v := 0) (by decide) E dX9_paidInYear_17 ?_
  refine JF.xb (fun y4 m5 h6 => ?_)
  refine j_callVv (pc := 18) (st := []) E (kX1_ask h6) mv_X1_ask rfl s_46 q_831 [.int p1, .int 0] rfl rfl rfl (by decide) (Nat.le_of_ble_eq_true rfl) dX9_paidInYear_18 ?_
  refine j_aload_n (pc := 21) rfl 1 rfl E dX9_paidInYear_21 ?_
  refine j_get (pc := 22) E xuX9 rfl s_0 (k := 5) (by decide) q_394 rfl (xflds_ref rfl) dX9_paidInYear_22 ?_
  refine j_aload_n (pc := 25) rfl 1 rfl E dX9_paidInYear_25 ?_
  refine j_get (pc := 26) E xuX9 rfl s_0 (k := 5) (by decide) q_394 rfl (xflds_ref rfl) dX9_paidInYear_26 ?_
  refine JF.xb (fun y7 m8 h9 => ?_)
  refine j_callVi (pc := 29) (st := [.ref (xa X 47)]) E (kX2_fewestWords h9) mv_X2_fewestWords rfl s_47 q_852 [] rfl rfl rfl (by decide) (Nat.le_of_ble_eq_true rfl) dX9_paidInYear_29 ?_
  refine JF.xb (fun y10 m11 h12 => ?_)
  refine j_callVv (pc := 32) (st := []) E (kX2_findFirst h12) mv_X2_findFirst rfl s_47 q_904 [.int y7] rfl rfl rfl (by decide) (Nat.le_of_ble_eq_true rfl) dX9_paidInYear_32 ?_
  refine j_aload_n (pc := 35) rfl 1 rfl E dX9_paidInYear_35 ?_
  refine j_get (pc := 36) E xuX9 rfl s_0 (k := 5) (by decide) q_394 rfl (xflds_ref rfl) dX9_paidInYear_36 ?_
  refine j_get (pc := 39) E xuX2 rfl s_47 (k := 6) (by decide) q_289 rfl (xflds_ref rfl) dX9_paidInYear_39 ?_
  refine j_get (pc := 42) E xuX4 rfl s_64 (k := 1) (by decide) q_243 rfl (xflds_int rfl) dX9_paidInYear_42 ?_
  refine j_if_ne (pc := 45) (tgt := 52) E dX9_paidInYear_45 (by decide) ?_ ?_
  · refine j_iconst (pc := 48) (v := 3) (by decide) E dX9_paidInYear_48 ?_
    refine j_iload_n (pc := 49) rfl 0 rfl E dX9_paidInYear_49 ?_
    refine j_imul (pc := 50) E dX9_paidInYear_50 ?_
    exact j_iret (pc := 51) E R dX9_paidInYear_51
  · refine j_aload_n (pc := 52) rfl 1 rfl E dX9_paidInYear_52 ?_
    refine j_get (pc := 53) E xuX9 rfl s_0 (k := 0) (by decide) q_389 rfl (xflds_ref rfl) dX9_paidInYear_53 ?_
    refine j_aload_n (pc := 56) rfl 1 rfl E dX9_paidInYear_56 ?_
    refine j_get (pc := 57) E xuX9 rfl s_0 (k := 5) (by decide) q_394 rfl (xflds_ref rfl) dX9_paidInYear_57 ?_
    refine j_get (pc := 60) E xuX2 rfl s_47 (k := 6) (by decide) q_289 rfl (xflds_ref rfl) dX9_paidInYear_60 ?_
    refine JF.xb (fun y13 m14 h15 => ?_)
    refine j_callVi (pc := 63) (st := [.ref (xa X 1)]) E (kX4_lastWord xl_64 h15) mv_X4_lastWord rfl s_64 q_768 [] rfl rfl rfl (by decide) (Nat.le_of_ble_eq_true rfl) dX9_paidInYear_63 ?_
    refine JF.xb (fun y16 m17 h18 => ?_)
    refine j_callVi (pc := 66) (st := []) E (kX8_rhymeWornBy h18) mv_X8_rhymeWornBy rfl s_1 q_769 [.int y13] rfl rfl rfl (by decide) (Nat.le_of_ble_eq_true rfl) dX9_paidInYear_66 ?_
    refine j_istore_n (pc := 69) (lv1 := [(3, .int y16), (2, .int y1), (0, .ref (xa X 0)), (1, .int p1)]) E dX9_paidInYear_69 rfl (by decide) rfl ?_
    refine j_aload_n (pc := 70) rfl 2 rfl E dX9_paidInYear_70 ?_
    refine j_get (pc := 71) E xuX9 rfl s_0 (k := 0) (by decide) q_389 rfl (xflds_ref rfl) dX9_paidInYear_71 ?_
    refine j_iload_n (pc := 74) rfl 0 rfl E dX9_paidInYear_74 ?_
    refine j_aload_n (pc := 75) rfl 2 rfl E dX9_paidInYear_75 ?_
    refine j_get (pc := 76) E xuX9 rfl s_0 (k := 9) (by decide) q_398 rfl (xflds_ref rfl) dX9_paidInYear_76 ?_
    refine j_iload_n (pc := 79) rfl 0 rfl E dX9_paidInYear_79 ?_
    refine JF.xb (fun y19 m20 h21 => ?_)
    refine j_callSi (pc := 80) (st := [.int y16, .ref (xa X 1)]) E (kX9_at xr_84 h21) mv_X9_at q_610 [.ref (xa X 84), .int y16] rfl rfl rfl (by decide) (Nat.le_of_ble_eq_true rfl) dX9_paidInYear_80 ?_
    refine JF.xb (fun y22 m23 h24 => ?_)
    refine j_callVi (pc := 83) (st := []) E (kX8_isWorn h24) mv_X8_isWorn rfl s_1 q_774 [.int y16, .int y19] rfl rfl rfl (by decide) (Nat.le_of_ble_eq_true rfl) dX9_paidInYear_83 ?_
    refine j_if_eq (pc := 86) (tgt := 93) E dX9_paidInYear_86 (by decide) ?_ ?_
    · refine j_iload_n (pc := 93) rfl 0 rfl E dX9_paidInYear_93 ?_
      refine j_if_lt (pc := 94) (tgt := 113) E dX9_paidInYear_94 (by decide) ?_ ?_
      · refine j_iload_n (pc := 113) rfl 1 rfl E dX9_paidInYear_113 ?_
        exact j_iret (pc := 114) E R dX9_paidInYear_114
      · refine j_iload_n (pc := 97) rfl 0 rfl E dX9_paidInYear_97 ?_
        refine j_bipush (pc := 98) (v := 6) (by decide) E dX9_paidInYear_98 ?_
        refine j_icmp_ge (pc := 100) (tgt := 113) E dX9_paidInYear_100 (by decide) ?_ ?_
        · refine j_iload_n (pc := 113) rfl 1 rfl E dX9_paidInYear_113 ?_
          exact j_iret (pc := 114) E R dX9_paidInYear_114
        · refine j_aload_n (pc := 103) rfl 2 rfl E dX9_paidInYear_103 ?_
          refine j_get (pc := 104) E xuX9 rfl s_0 (k := 9) (by decide) q_398 rfl (xflds_ref rfl) dX9_paidInYear_104 ?_
          refine j_iload_n (pc := 107) rfl 0 rfl E dX9_paidInYear_107 ?_
          refine j_dup2 (pc := 108) rfl rfl E dX9_paidInYear_108 ?_
          refine j_iald (pc := 109) E s_84 dX9_paidInYear_109 ?_
          refine j_iconst (pc := 110) (v := 1) (by decide) E dX9_paidInYear_110 ?_
          refine j_iadd (pc := 111) E dX9_paidInYear_111 ?_
          refine JF.xlet (fun m25 e26 => ?_)
          refine j_iast (pc := 112) E s_84 dX9_paidInYear_112 e26 ?_
          refine j_iload_n (pc := 113) rfl 1 rfl E dX9_paidInYear_113 ?_
          exact j_iret (pc := 114) E R dX9_paidInYear_114
    · refine j_iconst (pc := 89) (v := 3) (by decide) E dX9_paidInYear_89 ?_
      refine j_iload_n (pc := 90) rfl 1 rfl E dX9_paidInYear_90 ?_
      refine j_imul (pc := 91) E dX9_paidInYear_91 ?_
      exact j_iret (pc := 92) E R dX9_paidInYear_92
def fX9_year_L15 (N : Nat) (k41 : XS → Option XO) : Nat → Int32 → XS → Option XO
  | 0, _, _ => none
  | n + 1, v1, σ => if 6 ≤ v1 then k41 σ else xB (fX0_usesOf N σ v1) (fun y1 m2 => xLet (xUp m2 84 v1.toNatClampNeg y1) (fun m4 => gd (xin v1 6) (fX9_year_L15 N k41 n (v1 + 1) m4)))
set_option maxRecDepth 100000 in
set_option maxHeartbeats 4000000 in
theorem lX9_year_L15 (N : Nat) (k41 : XS → Option XO) {X : XC} {o : XO} (E : XE X cX9_year RX9 3 7 164) (R : XI X o cX9_year) (K41 : ∀ (σ : XS), JF X o 3 41 [(0, .ref (xa X 0))] [] σ (k41 σ)) : ∀ (n : Nat) (v1 : Int32) (σ : XS), JF X o 3 15 [(0, .ref (xa X 0)), (1, .int v1)] [] σ (fX9_year_L15 N k41 n v1 σ) := by
  intro n
  induction n with
  | zero => intro v1 σ; exact JF.none
  | succ n ih =>
    intro v1 σ
    show JF X o 3 15 [(0, .ref (xa X 0)), (1, .int v1)] [] σ (if 6 ≤ v1 then k41 σ else xB (fX0_usesOf N σ v1) (fun y1 m2 => xLet (xUp m2 84 v1.toNatClampNeg y1) (fun m4 => gd (xin v1 6) (fX9_year_L15 N k41 n (v1 + 1) m4))))
    refine j_iload_n (pc := 15) rfl 1 rfl E dX9_year_15 ?_
    refine j_bipush (pc := 16) (v := 6) (by decide) E dX9_year_16 ?_
    refine j_icmp_ge (pc := 18) (tgt := 41) E dX9_year_18 (by decide) ?_ ?_
    · refine JF.sub [0] rfl ?_
      exact K41  σ
    · refine j_aload_n (pc := 21) rfl 0 rfl E dX9_year_21 ?_
      refine j_get (pc := 22) E xuX9 rfl s_0 (k := 9) (by decide) q_398 rfl (xflds_ref rfl) dX9_year_22 ?_
      refine j_iload_n (pc := 25) rfl 1 rfl E dX9_year_25 ?_
      refine j_aload_n (pc := 26) rfl 0 rfl E dX9_year_26 ?_
      refine j_get (pc := 27) E xuX9 rfl s_0 (k := 2) (by decide) q_391 rfl (xflds_ref rfl) dX9_year_27 ?_
      refine j_iload_n (pc := 30) rfl 1 rfl E dX9_year_30 ?_
      refine JF.xb (fun y1 m2 h3 => ?_)
      refine j_callVi (pc := 31) (st := [.int v1, .ref (xa X 84)]) E (kX0_usesOf h3) mv_X0_usesOf rfl s_29 q_637 [.int v1] rfl rfl rfl (by decide) (Nat.le_of_ble_eq_true rfl) dX9_year_31 ?_
      refine JF.xlet (fun m4 e5 => ?_)
      refine j_iast (pc := 34) E s_84 dX9_year_34 e5 ?_
      refine j_iinc (pc := 35) (v := (v1 + 1)) (lv1 := [(1, .int (v1 + 1)), (0, .ref (xa X 0))]) E dX9_year_35 1 rfl rfl (by decide) rfl ?_
      refine j_goto (pc := 38) (tgt := 15) E dX9_year_38 (by decide) ?_
      refine JF.sub [1, 0] rfl ?_
      exact ih (v1 + 1) m4
def fX9_year_L45 (N : Nat) (k81 : Int32 → XS → Option XO) : Nat → Int32 → Int32 → XS → Option XO
  | 0, _, _, _ => none
  | n + 1, v1, v2, σ => if (σ 1 10) ≤ v2 then k81 v1 σ else xB (fX0_fateOf N σ v2) (fun y8 m9 => if y8 = 0 then xB (fX9_paidInYear N m9 v2) (fun y11 m12 => fX9_year_L45 N k81 n (v1 + y11) (v2 + 1) m12) else fX9_year_L45 N k81 n v1 (v2 + 1) m9)
set_option maxRecDepth 100000 in
set_option maxHeartbeats 4000000 in
theorem lX9_year_L45 (N : Nat) (k81 : Int32 → XS → Option XO) {X : XC} {o : XO} (E : XE X cX9_year RX9 3 7 164) (R : XI X o cX9_year) (K81 : ∀ (v1 : Int32) (σ : XS), JF X o 3 81 [(1, .int v1)] [] σ (k81 v1 σ)) : ∀ (n : Nat) (v1 : Int32) (v2 : Int32) (σ : XS), JF X o 3 45 [(0, .ref (xa X 0)), (1, .int v1), (2, .int v2)] [] σ (fX9_year_L45 N k81 n v1 v2 σ) := by
  intro n
  induction n with
  | zero => intro v1 v2 σ; exact JF.none
  | succ n ih =>
    intro v1 v2 σ
    show JF X o 3 45 [(0, .ref (xa X 0)), (1, .int v1), (2, .int v2)] [] σ (if (σ 1 10) ≤ v2 then k81 v1 σ else xB (fX0_fateOf N σ v2) (fun y8 m9 => if y8 = 0 then xB (fX9_paidInYear N m9 v2) (fun y11 m12 => fX9_year_L45 N k81 n (v1 + y11) (v2 + 1) m12) else fX9_year_L45 N k81 n v1 (v2 + 1) m9))
    refine j_iload_n (pc := 45) rfl 2 rfl E dX9_year_45 ?_
    refine j_aload_n (pc := 46) rfl 0 rfl E dX9_year_46 ?_
    refine j_get (pc := 47) E xuX9 rfl s_0 (k := 0) (by decide) q_389 rfl (xflds_ref rfl) dX9_year_47 ?_
    refine j_get (pc := 50) E xuX8 rfl s_1 (k := 10) (by decide) q_127 rfl (xflds_int rfl) dX9_year_50 ?_
    refine j_icmp_ge (pc := 53) (tgt := 81) E dX9_year_53 (by decide) ?_ ?_
    · refine JF.sub [1] rfl ?_
      exact K81 v1 σ
    · refine j_aload_n (pc := 56) rfl 0 rfl E dX9_year_56 ?_
      refine j_get (pc := 57) E xuX9 rfl s_0 (k := 2) (by decide) q_391 rfl (xflds_ref rfl) dX9_year_57 ?_
      refine j_iload_n (pc := 60) rfl 2 rfl E dX9_year_60 ?_
      refine JF.xb (fun y8 m9 h10 => ?_)
      refine j_callVi (pc := 61) (st := []) E (kX0_fateOf h10) mv_X0_fateOf rfl s_29 q_621 [.int v2] rfl rfl rfl (by decide) (Nat.le_of_ble_eq_true rfl) dX9_year_61 ?_
      refine j_if_ne (pc := 64) (tgt := 75) E dX9_year_64 (by decide) ?_ ?_
      · refine j_iload_n (pc := 67) rfl 1 rfl E dX9_year_67 ?_
        refine j_aload_n (pc := 68) rfl 0 rfl E dX9_year_68 ?_
        refine j_iload_n (pc := 69) rfl 2 rfl E dX9_year_69 ?_
        refine JF.xb (fun y11 m12 h13 => ?_)
        refine j_callVi (pc := 70) (st := [.int v1]) E (kX9_paidInYear h13) mv_X9_paidInYear rfl s_0 q_992 [.int v2] rfl rfl rfl (by decide) (Nat.le_of_ble_eq_true rfl) dX9_year_70 ?_
        refine j_iadd (pc := 73) E dX9_year_73 ?_
        refine j_istore_n (pc := 74) (lv1 := [(1, .int (v1 + y11)), (0, .ref (xa X 0)), (2, .int v2)]) E dX9_year_74 rfl (by decide) rfl ?_
        refine j_iinc (pc := 75) (v := (v2 + 1)) (lv1 := [(2, .int (v2 + 1)), (1, .int (v1 + y11)), (0, .ref (xa X 0))]) E dX9_year_75 2 rfl rfl (by decide) rfl ?_
        refine j_goto (pc := 78) (tgt := 45) E dX9_year_78 (by decide) ?_
        refine JF.sub [2, 1, 0] rfl ?_
        exact ih (v1 + y11) (v2 + 1) m12
      · refine j_iinc (pc := 75) (v := (v2 + 1)) (lv1 := [(2, .int (v2 + 1)), (0, .ref (xa X 0)), (1, .int v1)]) E dX9_year_75 2 rfl rfl (by decide) rfl ?_
        refine j_goto (pc := 78) (tgt := 45) E dX9_year_78 (by decide) ?_
        refine JF.sub [1, 2, 0] rfl ?_
        exact ih v1 (v2 + 1) m9
def fX9_year (N : Nat) (σ : XS) : Option XO := if (σ 1 11) = 0 then some ((-4), σ) else fX9_year_L15 N (fun m7 => fX9_year_L45 N (fun x14 m15 => some (x14, m15)) N 0 0 m7) N 0 σ
set_option maxRecDepth 100000 in
set_option maxHeartbeats 4000000 in
theorem kX9_year {N : Nat} {σ : XS} {o : XO} (h : fX9_year N σ = some o) : CtI yX9_year cX9_year 3 (some .int) 7 164 (fun Am ad => [.ref (Am 0)]) σ o := by
  refine ct_int (by decide) (fun _ _ => Nat.le_of_ble_eq_true rfl) (fun X E R => ?_)
  rw [← h]
  show JF X o 3 0 [(0, .ref (xa X 0))] [] σ (if (σ 1 11) = 0 then some ((-4), σ) else fX9_year_L15 N (fun m7 => fX9_year_L45 N (fun x14 m15 => some (x14, m15)) N 0 0 m7) N 0 σ)
  refine j_aload_n (pc := 0) rfl 0 rfl E dX9_year_0 ?_
  refine j_get (pc := 1) E xuX9 rfl s_0 (k := 0) (by decide) q_389 rfl (xflds_ref rfl) dX9_year_1 ?_
  refine j_get (pc := 4) E xuX8 rfl s_1 (k := 11) (by decide) q_131 rfl (xflds_int rfl) dX9_year_4 ?_
  refine j_if_ne (pc := 7) (tgt := 13) E dX9_year_7 (by decide) ?_ ?_
  · refine j_bipush (pc := 10) (v := (-4)) (by decide) E dX9_year_10 ?_
    exact j_iret (pc := 12) E R dX9_year_12
  · refine j_iconst (pc := 13) (v := 0) (by decide) E dX9_year_13 ?_
    refine j_istore_n (pc := 14) (lv1 := [(1, .int 0), (0, .ref (xa X 0))]) E dX9_year_14 rfl (by decide) rfl ?_
    refine JF.sub [1, 0] rfl ?_
    refine lX9_year_L15 N _ E R (fun m7 => ?_) N 0 σ
    · refine j_iconst (pc := 41) (v := 0) (by decide) E dX9_year_41 ?_
      refine j_istore_n (pc := 42) (lv1 := [(1, .int 0), (0, .ref (xa X 0))]) E dX9_year_42 rfl (by decide) rfl ?_
      refine j_iconst (pc := 43) (v := 0) (by decide) E dX9_year_43 ?_
      refine j_istore_n (pc := 44) (lv1 := [(2, .int 0), (1, .int 0), (0, .ref (xa X 0))]) E dX9_year_44 rfl (by decide) rfl ?_
      refine JF.sub [2, 1, 0] rfl ?_
      refine lX9_year_L45 N _ E R (fun x14 m15 => ?_) N 0 0 m7
      · refine j_iload_n (pc := 81) rfl 0 rfl E dX9_year_81 ?_
        exact j_iret (pc := 82) E R dX9_year_82
def fX9_secret (N : Nat) (σ : XS) (p1 : Int32) : Option XO := if p1 < 1 then some ((-3), σ) else if p1 ≤ 3 then xB (fX5_begin N σ p1) (fun y1 m2 => some (y1, m2)) else some ((-3), σ)
set_option maxRecDepth 100000 in
set_option maxHeartbeats 4000000 in
theorem kX9_secret {N : Nat} {σ : XS} {p1 : Int32} {o : XO} (h : fX9_secret N σ p1 = some o) : CtI yX9_secret cX9_secret 2 (some .int) 2 44 (fun Am ad => [.ref (Am 0), .int p1]) σ o := by
  refine ct_int (by decide) (fun _ _ => Nat.le_of_ble_eq_true rfl) (fun X E R => ?_)
  rw [← h]
  show JF X o 2 0 [(0, .ref (xa X 0)), (1, .int p1)] [] σ (if p1 < 1 then some ((-3), σ) else if p1 ≤ 3 then xB (fX5_begin N σ p1) (fun y1 m2 => some (y1, m2)) else some ((-3), σ))
  refine j_iload_n (pc := 0) rfl 1 rfl E dX9_secret_0 ?_
  refine j_iconst (pc := 1) (v := 1) (by decide) E dX9_secret_1 ?_
  refine j_icmp_lt (pc := 2) (tgt := 10) E dX9_secret_2 (by decide) ?_ ?_
  · refine j_bipush (pc := 10) (v := (-3)) (by decide) E dX9_secret_10 ?_
    exact j_iret (pc := 12) E R dX9_secret_12
  · refine j_iload_n (pc := 5) rfl 1 rfl E dX9_secret_5 ?_
    refine j_iconst (pc := 6) (v := 3) (by decide) E dX9_secret_6 ?_
    refine j_icmp_le (pc := 7) (tgt := 13) E dX9_secret_7 (by decide) ?_ ?_
    · refine j_aload_n (pc := 13) rfl 0 rfl E dX9_secret_13 ?_
      refine j_get (pc := 14) E xuX9 rfl s_0 (k := 8) (by decide) q_397 rfl (xflds_ref rfl) dX9_secret_14 ?_
      refine j_iload_n (pc := 17) rfl 1 rfl E dX9_secret_17 ?_
      refine JF.xb (fun y1 m2 h3 => ?_)
      refine j_callVi (pc := 18) (st := []) E (kX5_begin h3) mv_X5_begin rfl s_75 q_1000 [.int p1] rfl rfl rfl (by decide) (Nat.le_of_ble_eq_true rfl) dX9_secret_18 ?_
      exact j_iret (pc := 21) E R dX9_secret_21
    · refine j_bipush (pc := 10) (v := (-3)) (by decide) E dX9_secret_10 ?_
      exact j_iret (pc := 12) E R dX9_secret_12
def fX9_counted (N : Nat) (σ : XS) (p1 : Int32) (p2 : Int32) : Option XO := xB (fX8_isClerk N σ p1) (fun y1 m2 => if y1 = 0 then some ((-2), m2) else if p2 < 0 then some ((-3), m2) else if p2 ≤ 24 then if (m2 75 6) = 0 then some ((-4), m2) else if (m2 75 7) < 6 then xB (fX5_add N m2 p1 p2) (fun y4 m5 => some (y4, m5)) else some ((-5), m2) else some ((-3), m2))
set_option maxRecDepth 100000 in
set_option maxHeartbeats 4000000 in
theorem kX9_counted {N : Nat} {σ : XS} {p1 : Int32} {p2 : Int32} {o : XO} (h : fX9_counted N σ p1 p2 = some o) : CtI yX9_counted cX9_counted 3 (some .int) 1 22 (fun Am ad => [.ref (Am 0), .int p1, .int p2]) σ o := by
  refine ct_int (by decide) (fun _ _ => Nat.le_of_ble_eq_true rfl) (fun X E R => ?_)
  rw [← h]
  show JF X o 3 0 [(0, .ref (xa X 0)), (1, .int p1), (2, .int p2)] [] σ (xB (fX8_isClerk N σ p1) (fun y1 m2 => if y1 = 0 then some ((-2), m2) else if p2 < 0 then some ((-3), m2) else if p2 ≤ 24 then if (m2 75 6) = 0 then some ((-4), m2) else if (m2 75 7) < 6 then xB (fX5_add N m2 p1 p2) (fun y4 m5 => some (y4, m5)) else some ((-5), m2) else some ((-3), m2)))
  refine j_aload_n (pc := 0) rfl 0 rfl E dX9_counted_0 ?_
  refine j_get (pc := 1) E xuX9 rfl s_0 (k := 0) (by decide) q_389 rfl (xflds_ref rfl) dX9_counted_1 ?_
  refine j_iload_n (pc := 4) rfl 1 rfl E dX9_counted_4 ?_
  refine JF.xb (fun y1 m2 h3 => ?_)
  refine j_callVi (pc := 5) (st := []) E (kX8_isClerk h3) mv_X8_isClerk rfl s_1 q_629 [.int p1] rfl rfl rfl (by decide) (Nat.le_of_ble_eq_true rfl) dX9_counted_5 ?_
  refine j_if_ne (pc := 8) (tgt := 14) E dX9_counted_8 (by decide) ?_ ?_
  · refine j_bipush (pc := 11) (v := (-2)) (by decide) E dX9_counted_11 ?_
    exact j_iret (pc := 13) E R dX9_counted_13
  · refine j_iload_n (pc := 14) rfl 2 rfl E dX9_counted_14 ?_
    refine j_if_lt (pc := 15) (tgt := 24) E dX9_counted_15 (by decide) ?_ ?_
    · refine j_bipush (pc := 24) (v := (-3)) (by decide) E dX9_counted_24 ?_
      exact j_iret (pc := 26) E R dX9_counted_26
    · refine j_iload_n (pc := 18) rfl 2 rfl E dX9_counted_18 ?_
      refine j_bipush (pc := 19) (v := 24) (by decide) E dX9_counted_19 ?_
      refine j_icmp_le (pc := 21) (tgt := 27) E dX9_counted_21 (by decide) ?_ ?_
      · refine j_aload_n (pc := 27) rfl 0 rfl E dX9_counted_27 ?_
        refine j_get (pc := 28) E xuX9 rfl s_0 (k := 8) (by decide) q_397 rfl (xflds_ref rfl) dX9_counted_28 ?_
        refine j_get (pc := 31) E xuX5 rfl s_75 (k := 6) (by decide) q_361 rfl (xflds_int rfl) dX9_counted_31 ?_
        refine j_if_ne (pc := 34) (tgt := 40) E dX9_counted_34 (by decide) ?_ ?_
        · refine j_bipush (pc := 37) (v := (-4)) (by decide) E dX9_counted_37 ?_
          exact j_iret (pc := 39) E R dX9_counted_39
        · refine j_aload_n (pc := 40) rfl 0 rfl E dX9_counted_40 ?_
          refine j_get (pc := 41) E xuX9 rfl s_0 (k := 8) (by decide) q_397 rfl (xflds_ref rfl) dX9_counted_41 ?_
          refine j_get (pc := 44) E xuX5 rfl s_75 (k := 7) (by decide) q_363 rfl (xflds_int rfl) dX9_counted_44 ?_
          refine j_bipush (pc := 47) (v := 6) (by decide) E dX9_counted_47 ?_
          refine j_icmp_lt (pc := 49) (tgt := 55) E dX9_counted_49 (by decide) ?_ ?_
          · refine j_aload_n (pc := 55) rfl 0 rfl E dX9_counted_55 ?_
            refine j_get (pc := 56) E xuX9 rfl s_0 (k := 8) (by decide) q_397 rfl (xflds_ref rfl) dX9_counted_56 ?_
            refine j_iload_n (pc := 59) rfl 1 rfl E dX9_counted_59 ?_
            refine j_iload_n (pc := 60) rfl 2 rfl E dX9_counted_60 ?_
            refine JF.xb (fun y4 m5 h6 => ?_)
            refine j_callVi (pc := 61) (st := []) E (kX5_add h6) mv_X5_add rfl s_75 q_1009 [.int p1, .int p2] rfl rfl rfl (by decide) (Nat.le_of_ble_eq_true rfl) dX9_counted_61 ?_
            exact j_iret (pc := 64) E R dX9_counted_64
          · refine j_bipush (pc := 52) (v := (-5)) (by decide) E dX9_counted_52 ?_
            exact j_iret (pc := 54) E R dX9_counted_54
      · refine j_bipush (pc := 24) (v := (-3)) (by decide) E dX9_counted_24 ?_
        exact j_iret (pc := 26) E R dX9_counted_26
def fX9_canBe (N : Nat) (σ : XS) (p1 : Int32) : Option XO := if p1 < 0 then some ((-3), σ) else if p1 ≤ 1 then if (σ 75 6) = 0 then some ((-4), σ) else xB (fX5_solve N σ) (fun _ m2 => if p1 = 0 then some ((m2 75 8), m2) else some ((m2 75 9), m2)) else some ((-3), σ)
set_option maxRecDepth 100000 in
set_option maxHeartbeats 4000000 in
theorem kX9_canBe {N : Nat} {σ : XS} {p1 : Int32} {o : XO} (h : fX9_canBe N σ p1 = some o) : CtI yX9_canBe cX9_canBe 2 (some .int) 6 133 (fun Am ad => [.ref (Am 0), .int p1]) σ o := by
  refine ct_int (by decide) (fun _ _ => Nat.le_of_ble_eq_true rfl) (fun X E R => ?_)
  rw [← h]
  show JF X o 2 0 [(0, .ref (xa X 0)), (1, .int p1)] [] σ (if p1 < 0 then some ((-3), σ) else if p1 ≤ 1 then if (σ 75 6) = 0 then some ((-4), σ) else xB (fX5_solve N σ) (fun _ m2 => if p1 = 0 then some ((m2 75 8), m2) else some ((m2 75 9), m2)) else some ((-3), σ))
  refine j_iload_n (pc := 0) rfl 1 rfl E dX9_canBe_0 ?_
  refine j_if_lt (pc := 1) (tgt := 9) E dX9_canBe_1 (by decide) ?_ ?_
  · refine j_bipush (pc := 9) (v := (-3)) (by decide) E dX9_canBe_9 ?_
    exact j_iret (pc := 11) E R dX9_canBe_11
  · refine j_iload_n (pc := 4) rfl 1 rfl E dX9_canBe_4 ?_
    refine j_iconst (pc := 5) (v := 1) (by decide) E dX9_canBe_5 ?_
    refine j_icmp_le (pc := 6) (tgt := 12) E dX9_canBe_6 (by decide) ?_ ?_
    · refine j_aload_n (pc := 12) rfl 0 rfl E dX9_canBe_12 ?_
      refine j_get (pc := 13) E xuX9 rfl s_0 (k := 8) (by decide) q_397 rfl (xflds_ref rfl) dX9_canBe_13 ?_
      refine j_get (pc := 16) E xuX5 rfl s_75 (k := 6) (by decide) q_361 rfl (xflds_int rfl) dX9_canBe_16 ?_
      refine j_if_ne (pc := 19) (tgt := 25) E dX9_canBe_19 (by decide) ?_ ?_
      · refine j_bipush (pc := 22) (v := (-4)) (by decide) E dX9_canBe_22 ?_
        exact j_iret (pc := 24) E R dX9_canBe_24
      · refine j_aload_n (pc := 25) rfl 0 rfl E dX9_canBe_25 ?_
        refine j_get (pc := 26) E xuX9 rfl s_0 (k := 8) (by decide) q_397 rfl (xflds_ref rfl) dX9_canBe_26 ?_
        refine JF.xb (fun y1 m2 h3 => ?_)
        refine j_callVv (pc := 29) (st := []) E (kX5_solve h3) mv_X5_solve rfl s_75 q_1017 [] rfl rfl rfl (by decide) (Nat.le_of_ble_eq_true rfl) dX9_canBe_29 ?_
        refine j_iload_n (pc := 32) rfl 1 rfl E dX9_canBe_32 ?_
        refine j_if_ne (pc := 33) (tgt := 46) E dX9_canBe_33 (by decide) ?_ ?_
        · refine j_aload_n (pc := 36) rfl 0 rfl E dX9_canBe_36 ?_
          refine j_get (pc := 37) E xuX9 rfl s_0 (k := 8) (by decide) q_397 rfl (xflds_ref rfl) dX9_canBe_37 ?_
          refine j_get (pc := 40) E xuX5 rfl s_75 (k := 8) (by decide) q_365 rfl (xflds_int rfl) dX9_canBe_40 ?_
          refine j_goto (pc := 43) (tgt := 53) E dX9_canBe_43 (by decide) ?_
          exact j_iret (pc := 53) E R dX9_canBe_53
        · refine j_aload_n (pc := 46) rfl 0 rfl E dX9_canBe_46 ?_
          refine j_get (pc := 47) E xuX9 rfl s_0 (k := 8) (by decide) q_397 rfl (xflds_ref rfl) dX9_canBe_47 ?_
          refine j_get (pc := 50) E xuX5 rfl s_75 (k := 9) (by decide) q_367 rfl (xflds_int rfl) dX9_canBe_50 ?_
          exact j_iret (pc := 53) E R dX9_canBe_53
    · refine j_bipush (pc := 9) (v := (-3)) (by decide) E dX9_canBe_9 ?_
      exact j_iret (pc := 11) E R dX9_canBe_11
def fX9_canBeWord (N : Nat) (σ : XS) (p1 : Int32) (p2 : Int32) : Option XO := if p1 < 0 then some ((-3), σ) else if p2 < 0 then some ((-3), σ) else if p2 ≤ 1 then if (σ 75 6) = 0 then some ((-4), σ) else xB (fX5_solve N σ) (fun _ m2 => if p2 = 0 then xB (fX4_wordAt N m2 80 p1) (fun y7 m8 => some (y7, m8)) else xB (fX4_wordAt N m2 82 p1) (fun y4 m5 => some (y4, m5))) else some ((-3), σ)
set_option maxRecDepth 100000 in
set_option maxHeartbeats 4000000 in
theorem kX9_canBeWord {N : Nat} {σ : XS} {p1 : Int32} {p2 : Int32} {o : XO} (h : fX9_canBeWord N σ p1 p2 = some o) : CtI yX9_canBeWord cX9_canBeWord 3 (some .int) 6 133 (fun Am ad => [.ref (Am 0), .int p1, .int p2]) σ o := by
  refine ct_int (by decide) (fun _ _ => Nat.le_of_ble_eq_true rfl) (fun X E R => ?_)
  rw [← h]
  show JF X o 3 0 [(0, .ref (xa X 0)), (1, .int p1), (2, .int p2)] [] σ (if p1 < 0 then some ((-3), σ) else if p2 < 0 then some ((-3), σ) else if p2 ≤ 1 then if (σ 75 6) = 0 then some ((-4), σ) else xB (fX5_solve N σ) (fun _ m2 => if p2 = 0 then xB (fX4_wordAt N m2 80 p1) (fun y7 m8 => some (y7, m8)) else xB (fX4_wordAt N m2 82 p1) (fun y4 m5 => some (y4, m5))) else some ((-3), σ))
  refine j_iload_n (pc := 0) rfl 1 rfl E dX9_canBeWord_0 ?_
  refine j_if_lt (pc := 1) (tgt := 13) E dX9_canBeWord_1 (by decide) ?_ ?_
  · refine j_bipush (pc := 13) (v := (-3)) (by decide) E dX9_canBeWord_13 ?_
    exact j_iret (pc := 15) E R dX9_canBeWord_15
  · refine j_iload_n (pc := 4) rfl 2 rfl E dX9_canBeWord_4 ?_
    refine j_if_lt (pc := 5) (tgt := 13) E dX9_canBeWord_5 (by decide) ?_ ?_
    · refine j_bipush (pc := 13) (v := (-3)) (by decide) E dX9_canBeWord_13 ?_
      exact j_iret (pc := 15) E R dX9_canBeWord_15
    · refine j_iload_n (pc := 8) rfl 2 rfl E dX9_canBeWord_8 ?_
      refine j_iconst (pc := 9) (v := 1) (by decide) E dX9_canBeWord_9 ?_
      refine j_icmp_le (pc := 10) (tgt := 16) E dX9_canBeWord_10 (by decide) ?_ ?_
      · refine j_aload_n (pc := 16) rfl 0 rfl E dX9_canBeWord_16 ?_
        refine j_get (pc := 17) E xuX9 rfl s_0 (k := 8) (by decide) q_397 rfl (xflds_ref rfl) dX9_canBeWord_17 ?_
        refine j_get (pc := 20) E xuX5 rfl s_75 (k := 6) (by decide) q_361 rfl (xflds_int rfl) dX9_canBeWord_20 ?_
        refine j_if_ne (pc := 23) (tgt := 29) E dX9_canBeWord_23 (by decide) ?_ ?_
        · refine j_bipush (pc := 26) (v := (-4)) (by decide) E dX9_canBeWord_26 ?_
          exact j_iret (pc := 28) E R dX9_canBeWord_28
        · refine j_aload_n (pc := 29) rfl 0 rfl E dX9_canBeWord_29 ?_
          refine j_get (pc := 30) E xuX9 rfl s_0 (k := 8) (by decide) q_397 rfl (xflds_ref rfl) dX9_canBeWord_30 ?_
          refine JF.xb (fun y1 m2 h3 => ?_)
          refine j_callVv (pc := 33) (st := []) E (kX5_solve h3) mv_X5_solve rfl s_75 q_1017 [] rfl rfl rfl (by decide) (Nat.le_of_ble_eq_true rfl) dX9_canBeWord_33 ?_
          refine j_iload_n (pc := 36) rfl 2 rfl E dX9_canBeWord_36 ?_
          refine j_if_ne (pc := 37) (tgt := 54) E dX9_canBeWord_37 (by decide) ?_ ?_
          · refine j_aload_n (pc := 40) rfl 0 rfl E dX9_canBeWord_40 ?_
            refine j_get (pc := 41) E xuX9 rfl s_0 (k := 8) (by decide) q_397 rfl (xflds_ref rfl) dX9_canBeWord_41 ?_
            refine j_get (pc := 44) E xuX5 rfl s_75 (k := 4) (by decide) q_357 rfl (xflds_ref rfl) dX9_canBeWord_44 ?_
            refine j_iload_n (pc := 47) rfl 1 rfl E dX9_canBeWord_47 ?_
            refine JF.xb (fun y7 m8 h9 => ?_)
            refine j_callVi (pc := 48) (st := []) E (kX4_wordAt xl_80 h9) mv_X4_wordAt rfl s_80 q_702 [.int p1] rfl rfl rfl (by decide) (Nat.le_of_ble_eq_true rfl) dX9_canBeWord_48 ?_
            refine j_goto (pc := 51) (tgt := 65) E dX9_canBeWord_51 (by decide) ?_
            exact j_iret (pc := 65) E R dX9_canBeWord_65
          · refine j_aload_n (pc := 54) rfl 0 rfl E dX9_canBeWord_54 ?_
            refine j_get (pc := 55) E xuX9 rfl s_0 (k := 8) (by decide) q_397 rfl (xflds_ref rfl) dX9_canBeWord_55 ?_
            refine j_get (pc := 58) E xuX5 rfl s_75 (k := 5) (by decide) q_359 rfl (xflds_ref rfl) dX9_canBeWord_58 ?_
            refine j_iload_n (pc := 61) rfl 1 rfl E dX9_canBeWord_61 ?_
            refine JF.xb (fun y4 m5 h6 => ?_)
            refine j_callVi (pc := 62) (st := []) E (kX4_wordAt xl_82 h6) mv_X4_wordAt rfl s_82 q_702 [.int p1] rfl rfl rfl (by decide) (Nat.le_of_ble_eq_true rfl) dX9_canBeWord_62 ?_
            exact j_iret (pc := 65) E R dX9_canBeWord_65
      · refine j_bipush (pc := 13) (v := (-3)) (by decide) E dX9_canBeWord_13 ?_
        exact j_iret (pc := 15) E R dX9_canBeWord_15
def fX9_openWares_L4 (N : Nat) (k38 : Int32 → XS → Option XO) : Nat → Int32 → Int32 → XS → Option XO
  | 0, _, _, _ => none
  | n + 1, v1, v2, σ => if (σ 1 10) ≤ v2 then k38 v1 σ else xB (fX0_fateOf N σ v2) (fun y1 m2 => if y1 = 0 then xLetI (v1 ||| (1 <<< (v2 &&& 31))) (fun x4 => fX9_openWares_L4 N k38 n x4 (v2 + 1) m2) else fX9_openWares_L4 N k38 n v1 (v2 + 1) m2)
set_option maxRecDepth 100000 in
set_option maxHeartbeats 4000000 in
theorem lX9_openWares_L4 (N : Nat) (k38 : Int32 → XS → Option XO) {X : XC} {o : XO} (E : XE X cX9_openWares RX9 3 1 21) (R : XI X o cX9_openWares) (K38 : ∀ (v1 : Int32) (σ : XS), JF X o 3 38 [(1, .int v1)] [] σ (k38 v1 σ)) : ∀ (n : Nat) (v1 : Int32) (v2 : Int32) (σ : XS), JF X o 3 4 [(0, .ref (xa X 0)), (1, .int v1), (2, .int v2)] [] σ (fX9_openWares_L4 N k38 n v1 v2 σ) := by
  intro n
  induction n with
  | zero => intro v1 v2 σ; exact JF.none
  | succ n ih =>
    intro v1 v2 σ
    show JF X o 3 4 [(0, .ref (xa X 0)), (1, .int v1), (2, .int v2)] [] σ (if (σ 1 10) ≤ v2 then k38 v1 σ else xB (fX0_fateOf N σ v2) (fun y1 m2 => if y1 = 0 then xLetI (v1 ||| (1 <<< (v2 &&& 31))) (fun x4 => fX9_openWares_L4 N k38 n x4 (v2 + 1) m2) else fX9_openWares_L4 N k38 n v1 (v2 + 1) m2))
    refine j_iload_n (pc := 4) rfl 2 rfl E dX9_openWares_4 ?_
    refine j_aload_n (pc := 5) rfl 0 rfl E dX9_openWares_5 ?_
    refine j_get (pc := 6) E xuX9 rfl s_0 (k := 0) (by decide) q_389 rfl (xflds_ref rfl) dX9_openWares_6 ?_
    refine j_get (pc := 9) E xuX8 rfl s_1 (k := 10) (by decide) q_127 rfl (xflds_int rfl) dX9_openWares_9 ?_
    refine j_icmp_ge (pc := 12) (tgt := 38) E dX9_openWares_12 (by decide) ?_ ?_
    · refine JF.sub [1] rfl ?_
      exact K38 v1 σ
    · refine j_aload_n (pc := 15) rfl 0 rfl E dX9_openWares_15 ?_
      refine j_get (pc := 16) E xuX9 rfl s_0 (k := 2) (by decide) q_391 rfl (xflds_ref rfl) dX9_openWares_16 ?_
      refine j_iload_n (pc := 19) rfl 2 rfl E dX9_openWares_19 ?_
      refine JF.xb (fun y1 m2 h3 => ?_)
      refine j_callVi (pc := 20) (st := []) E (kX0_fateOf h3) mv_X0_fateOf rfl s_29 q_621 [.int v2] rfl rfl rfl (by decide) (Nat.le_of_ble_eq_true rfl) dX9_openWares_20 ?_
      refine j_if_ne (pc := 23) (tgt := 32) E dX9_openWares_23 (by decide) ?_ ?_
      · refine j_iload_n (pc := 26) rfl 1 rfl E dX9_openWares_26 ?_
        refine j_iconst (pc := 27) (v := 1) (by decide) E dX9_openWares_27 ?_
        refine j_iload_n (pc := 28) rfl 2 rfl E dX9_openWares_28 ?_
        refine j_ishl (pc := 29) E dX9_openWares_29 ?_
        refine j_ior (pc := 30) E dX9_openWares_30 ?_
        refine JF.xletI (fun x4 => ?_)
        refine j_istore_n (pc := 31) (lv1 := [(1, .int x4), (0, .ref (xa X 0)), (2, .int v2)]) E dX9_openWares_31 rfl (by decide) rfl ?_
        refine j_iinc (pc := 32) (v := (v2 + 1)) (lv1 := [(2, .int (v2 + 1)), (1, .int x4), (0, .ref (xa X 0))]) E dX9_openWares_32 2 rfl rfl (by decide) rfl ?_
        refine j_goto (pc := 35) (tgt := 4) E dX9_openWares_35 (by decide) ?_
        refine JF.sub [2, 1, 0] rfl ?_
        exact ih x4 (v2 + 1) m2
      · refine j_iinc (pc := 32) (v := (v2 + 1)) (lv1 := [(2, .int (v2 + 1)), (0, .ref (xa X 0)), (1, .int v1)]) E dX9_openWares_32 2 rfl rfl (by decide) rfl ?_
        refine j_goto (pc := 35) (tgt := 4) E dX9_openWares_35 (by decide) ?_
        refine JF.sub [1, 2, 0] rfl ?_
        exact ih v1 (v2 + 1) m2
def fX9_openWares (N : Nat) (σ : XS) : Option XO := fX9_openWares_L4 N (fun x5 m6 => some (x5, m6)) N 0 0 σ
set_option maxRecDepth 100000 in
set_option maxHeartbeats 4000000 in
theorem kX9_openWares {N : Nat} {σ : XS} {o : XO} (h : fX9_openWares N σ = some o) : CtI yX9_openWares cX9_openWares 3 (some .int) 1 21 (fun Am ad => [.ref (Am 0)]) σ o := by
  refine ct_int (by decide) (fun _ _ => Nat.le_of_ble_eq_true rfl) (fun X E R => ?_)
  rw [← h]
  show JF X o 3 0 [(0, .ref (xa X 0))] [] σ (fX9_openWares_L4 N (fun x5 m6 => some (x5, m6)) N 0 0 σ)
  refine j_iconst (pc := 0) (v := 0) (by decide) E dX9_openWares_0 ?_
  refine j_istore_n (pc := 1) (lv1 := [(1, .int 0), (0, .ref (xa X 0))]) E dX9_openWares_1 rfl (by decide) rfl ?_
  refine j_iconst (pc := 2) (v := 0) (by decide) E dX9_openWares_2 ?_
  refine j_istore_n (pc := 3) (lv1 := [(2, .int 0), (1, .int 0), (0, .ref (xa X 0))]) E dX9_openWares_3 rfl (by decide) rfl ?_
  refine JF.sub [2, 1, 0] rfl ?_
  refine lX9_openWares_L4 N _ E R (fun x5 m6 => ?_) N 0 0 σ
  · refine j_iload_n (pc := 38) rfl 0 rfl E dX9_openWares_38 ?_
    exact j_iret (pc := 39) E R dX9_openWares_39
def fX9_count (N : Nat) (σ : XS) (p1 : Int32) : Option XO := if p1 = 0 then some ((σ 1 9), σ) else if p1 = 1 then some ((σ 1 10), σ) else if p1 = 2 then some ((σ 1 11), σ) else if p1 = 3 then some ((σ 1 12), σ) else if p1 = 4 then xB (fX0_today N σ) (fun y6 m7 => some (y6, m7)) else if p1 = 5 then xB (fX0_paid N σ) (fun y10 m11 => some (y10, m11)) else if p1 = 6 then xB (fX9_openWares N σ) (fun y14 m15 => some (y14, m15)) else if p1 = 7 then some ((σ 44 1), σ) else if p1 = 8 then some ((σ 75 7), σ) else if p1 = 9 then some ((σ 29 5), σ) else if p1 = 10 then some ((σ 11 3), σ) else some ((-3), σ)
set_option maxRecDepth 100000 in
set_option maxHeartbeats 4000000 in
theorem kX9_count {N : Nat} {σ : XS} {p1 : Int32} {o : XO} (h : fX9_count N σ p1 = some o) : CtI yX9_count cX9_count 2 (some .int) 2 43 (fun Am ad => [.ref (Am 0), .int p1]) σ o := by
  refine ct_int (by decide) (fun _ _ => Nat.le_of_ble_eq_true rfl) (fun X E R => ?_)
  rw [← h]
  show JF X o 2 0 [(0, .ref (xa X 0)), (1, .int p1)] [] σ (if p1 = 0 then some ((σ 1 9), σ) else if p1 = 1 then some ((σ 1 10), σ) else if p1 = 2 then some ((σ 1 11), σ) else if p1 = 3 then some ((σ 1 12), σ) else if p1 = 4 then xB (fX0_today N σ) (fun y6 m7 => some (y6, m7)) else if p1 = 5 then xB (fX0_paid N σ) (fun y10 m11 => some (y10, m11)) else if p1 = 6 then xB (fX9_openWares N σ) (fun y14 m15 => some (y14, m15)) else if p1 = 7 then some ((σ 44 1), σ) else if p1 = 8 then some ((σ 75 7), σ) else if p1 = 9 then some ((σ 29 5), σ) else if p1 = 10 then some ((σ 11 3), σ) else some ((-3), σ))
  refine j_iload_n (pc := 0) rfl 1 rfl E dX9_count_0 ?_
  refine JF.ite (fun c1 => ?_) (fun c1 => ?_)
  · refine j_tabIn (pc := 1) (tgt := 60) E dX9_count_1 c1 (by decide) (by decide) rfl (by decide) ?_
    refine j_aload_n (pc := 60) rfl 0 rfl E dX9_count_60 ?_
    refine j_get (pc := 61) E xuX9 rfl s_0 (k := 0) (by decide) q_389 rfl (xflds_ref rfl) dX9_count_61 ?_
    refine j_get (pc := 64) E xuX8 rfl s_1 (k := 9) (by decide) q_122 rfl (xflds_int rfl) dX9_count_64 ?_
    exact j_iret (pc := 67) E R dX9_count_67
  refine JF.ite (fun c2 => ?_) (fun c2 => ?_)
  · refine j_tabIn (tgt := 68) E dX9_count_1 c2 (by decide) (by decide) rfl (by decide) ?_
    refine j_aload_n (pc := 68) rfl 0 rfl E dX9_count_68 ?_
    refine j_get (pc := 69) E xuX9 rfl s_0 (k := 0) (by decide) q_389 rfl (xflds_ref rfl) dX9_count_69 ?_
    refine j_get (pc := 72) E xuX8 rfl s_1 (k := 10) (by decide) q_127 rfl (xflds_int rfl) dX9_count_72 ?_
    exact j_iret (pc := 75) E R dX9_count_75
  refine JF.ite (fun c3 => ?_) (fun c3 => ?_)
  · refine j_tabIn (tgt := 76) E dX9_count_1 c3 (by decide) (by decide) rfl (by decide) ?_
    refine j_aload_n (pc := 76) rfl 0 rfl E dX9_count_76 ?_
    refine j_get (pc := 77) E xuX9 rfl s_0 (k := 0) (by decide) q_389 rfl (xflds_ref rfl) dX9_count_77 ?_
    refine j_get (pc := 80) E xuX8 rfl s_1 (k := 11) (by decide) q_131 rfl (xflds_int rfl) dX9_count_80 ?_
    exact j_iret (pc := 83) E R dX9_count_83
  refine JF.ite (fun c4 => ?_) (fun c4 => ?_)
  · refine j_tabIn (tgt := 84) E dX9_count_1 c4 (by decide) (by decide) rfl (by decide) ?_
    refine j_aload_n (pc := 84) rfl 0 rfl E dX9_count_84 ?_
    refine j_get (pc := 85) E xuX9 rfl s_0 (k := 0) (by decide) q_389 rfl (xflds_ref rfl) dX9_count_85 ?_
    refine j_get (pc := 88) E xuX8 rfl s_1 (k := 12) (by decide) q_134 rfl (xflds_int rfl) dX9_count_88 ?_
    exact j_iret (pc := 91) E R dX9_count_91
  refine JF.ite (fun c5 => ?_) (fun c5 => ?_)
  · refine j_tabIn (tgt := 92) E dX9_count_1 c5 (by decide) (by decide) rfl (by decide) ?_
    refine j_aload_n (pc := 92) rfl 0 rfl E dX9_count_92 ?_
    refine j_get (pc := 93) E xuX9 rfl s_0 (k := 2) (by decide) q_391 rfl (xflds_ref rfl) dX9_count_93 ?_
    refine JF.xb (fun y6 m7 h8 => ?_)
    refine j_callVi (pc := 96) (st := []) E (kX0_today h8) mv_X0_today rfl s_29 q_1055 [] rfl rfl rfl (by decide) (Nat.le_of_ble_eq_true rfl) dX9_count_96 ?_
    exact j_iret (pc := 99) E R dX9_count_99
  refine JF.ite (fun c9 => ?_) (fun c9 => ?_)
  · refine j_tabIn (tgt := 100) E dX9_count_1 c9 (by decide) (by decide) rfl (by decide) ?_
    refine j_aload_n (pc := 100) rfl 0 rfl E dX9_count_100 ?_
    refine j_get (pc := 101) E xuX9 rfl s_0 (k := 2) (by decide) q_391 rfl (xflds_ref rfl) dX9_count_101 ?_
    refine JF.xb (fun y10 m11 h12 => ?_)
    refine j_callVi (pc := 104) (st := []) E (kX0_paid h12) mv_X0_paid rfl s_29 q_1059 [] rfl rfl rfl (by decide) (Nat.le_of_ble_eq_true rfl) dX9_count_104 ?_
    exact j_iret (pc := 107) E R dX9_count_107
  refine JF.ite (fun c13 => ?_) (fun c13 => ?_)
  · refine j_tabIn (tgt := 108) E dX9_count_1 c13 (by decide) (by decide) rfl (by decide) ?_
    refine j_aload_n (pc := 108) rfl 0 rfl E dX9_count_108 ?_
    refine JF.xb (fun y14 m15 h16 => ?_)
    refine j_callVi (pc := 109) (st := []) E (kX9_openWares h16) mv_X9_openWares rfl s_0 q_1063 [] rfl rfl rfl (by decide) (Nat.le_of_ble_eq_true rfl) dX9_count_109 ?_
    exact j_iret (pc := 112) E R dX9_count_112
  refine JF.ite (fun c17 => ?_) (fun c17 => ?_)
  · refine j_tabIn (tgt := 113) E dX9_count_1 c17 (by decide) (by decide) rfl (by decide) ?_
    refine j_aload_n (pc := 113) rfl 0 rfl E dX9_count_113 ?_
    refine j_get (pc := 114) E xuX9 rfl s_0 (k := 3) (by decide) q_392 rfl (xflds_ref rfl) dX9_count_114 ?_
    refine j_get (pc := 117) E xuX4 rfl s_44 (k := 1) (by decide) q_243 rfl (xflds_int rfl) dX9_count_117 ?_
    exact j_iret (pc := 120) E R dX9_count_120
  refine JF.ite (fun c18 => ?_) (fun c18 => ?_)
  · refine j_tabIn (tgt := 121) E dX9_count_1 c18 (by decide) (by decide) rfl (by decide) ?_
    refine j_aload_n (pc := 121) rfl 0 rfl E dX9_count_121 ?_
    refine j_get (pc := 122) E xuX9 rfl s_0 (k := 8) (by decide) q_397 rfl (xflds_ref rfl) dX9_count_122 ?_
    refine j_get (pc := 125) E xuX5 rfl s_75 (k := 7) (by decide) q_363 rfl (xflds_int rfl) dX9_count_125 ?_
    exact j_iret (pc := 128) E R dX9_count_128
  refine JF.ite (fun c19 => ?_) (fun c19 => ?_)
  · refine j_tabIn (tgt := 129) E dX9_count_1 c19 (by decide) (by decide) rfl (by decide) ?_
    refine j_aload_n (pc := 129) rfl 0 rfl E dX9_count_129 ?_
    refine j_get (pc := 130) E xuX9 rfl s_0 (k := 2) (by decide) q_391 rfl (xflds_ref rfl) dX9_count_130 ?_
    refine j_get (pc := 133) E xuX0 rfl s_29 (k := 5) (by decide) q_218 rfl (xflds_int rfl) dX9_count_133 ?_
    exact j_iret (pc := 136) E R dX9_count_136
  refine JF.ite (fun c20 => ?_) (fun c20 => ?_)
  · refine j_tabIn (tgt := 137) E dX9_count_1 c20 (by decide) (by decide) rfl (by decide) ?_
    refine j_aload_n (pc := 137) rfl 0 rfl E dX9_count_137 ?_
    refine j_get (pc := 138) E xuX9 rfl s_0 (k := 1) (by decide) q_390 rfl (xflds_ref rfl) dX9_count_138 ?_
    refine j_get (pc := 141) E xuX7 rfl s_11 (k := 3) (by decide) q_175 rfl (xflds_int rfl) dX9_count_141 ?_
    exact j_iret (pc := 144) E R dX9_count_144
  refine j_tabOut (tgt := 145) E dX9_count_1 (by have := xne c1 (k := 0) (by decide); have := xne c2 (k := 1) (by decide); have := xne c3 (k := 2) (by decide); have := xne c4 (k := 3) (by decide); have := xne c5 (k := 4) (by decide); have := xne c9 (k := 5) (by decide); have := xne c13 (k := 6) (by decide); have := xne c17 (k := 7) (by decide); have := xne c18 (k := 8) (by decide); have := xne c19 (k := 9) (by decide); have := xne c20 (k := 10) (by decide); omega) (by decide) ?_
  refine j_bipush (pc := 145) (v := (-3)) (by decide) E dX9_count_145 ?_
  exact j_iret (pc := 147) E R dX9_count_147
def fX10_in (N : Nat) (σ : XS) (p1 : Int64) (p2 : Int64) (p3 : Int64) : Option XO := if (lg_cmp p1 p2) < 0 then some (0, σ) else if 0 < (lg_cmp p1 p3) then some (0, σ) else some (1, σ)
set_option maxRecDepth 100000 in
set_option maxHeartbeats 4000000 in
theorem kX10_in {N : Nat} {σ : XS} {p1 : Int64} {p2 : Int64} {p3 : Int64} {o : XO} (h : fX10_in N σ p1 p2 p3 = some o) : CtI yX10_in cX10_in 6 (some .boolean) 0 0 (fun Am ad => [.long p1, .long p2, .long p3]) σ o := by
  refine ct_z (by decide) (fun _ _ => Nat.le_of_ble_eq_true rfl) (fun X E R => ?_)
  rw [← h]
  show JF X o 6 0 [(0, .long p1), (2, .long p2), (4, .long p3)] [] σ (if (lg_cmp p1 p2) < 0 then some (0, σ) else if 0 < (lg_cmp p1 p3) then some (0, σ) else some (1, σ))
  refine j_lload_n (pc := 0) rfl 0 rfl E dX10_in_0 ?_
  refine j_lload_n (pc := 1) rfl 1 rfl E dX10_in_1 ?_
  refine j_lcmp (pc := 2) E dX10_in_2 ?_
  refine j_if_lt (pc := 3) (tgt := 17) E dX10_in_3 (by decide) ?_ ?_
  · refine j_iconst (pc := 17) (v := 0) (by decide) E dX10_in_17 ?_
    exact j_zret (pc := 18) E R rfl dX10_in_18
  · refine j_lload_n (pc := 6) rfl 0 rfl E dX10_in_6 ?_
    refine j_lload (pc := 7) 2 rfl E dX10_in_7 ?_
    refine j_lcmp (pc := 9) E dX10_in_9 ?_
    refine j_if_gt (pc := 10) (tgt := 17) E dX10_in_10 (by decide) ?_ ?_
    · refine j_iconst (pc := 17) (v := 0) (by decide) E dX10_in_17 ?_
      exact j_zret (pc := 18) E R rfl dX10_in_18
    · refine j_iconst (pc := 13) (v := 1) (by decide) E dX10_in_13 ?_
      refine j_goto (pc := 14) (tgt := 18) E dX10_in_14 (by decide) ?_
      exact j_zret (pc := 18) E R rfl dX10_in_18
def fX10_empties_L2 (N : Nat) (k39 : XS → Option XO) : Nat → Int32 → XS → Option XO
  | 0, _, _ => none
  | n + 1, v1, σ => if 98 ≤ v1 then k39 σ else xB (fX10_in N σ v1.toInt64 73 78) (fun y1 m2 => if y1 = 0 then xLet (xUp m2 86 v1.toNatClampNeg 0) (fun m4 => gd (xin v1 98) (fX10_empties_L2 N k39 n (v1 + 1) m4)) else xLet (xUp m2 86 v1.toNatClampNeg 3) (fun m7 => gd (xin v1 98) (fX10_empties_L2 N k39 n (v1 + 1) m7)))
set_option maxRecDepth 100000 in
set_option maxHeartbeats 4000000 in
theorem lX10_empties_L2 (N : Nat) (k39 : XS → Option XO) {X : XC} {o : XO} (E : XE X cX10_empties RX10 2 1 25) (R : XV X o cX10_empties) (K39 : ∀ (σ : XS), JF X o 2 39 [] [] σ (k39 σ)) : ∀ (n : Nat) (v1 : Int32) (σ : XS), JF X o 2 2 [(0, .ref (xa X 85)), (1, .int v1)] [] σ (fX10_empties_L2 N k39 n v1 σ) := by
  intro n
  induction n with
  | zero => intro v1 σ; exact JF.none
  | succ n ih =>
    intro v1 σ
    show JF X o 2 2 [(0, .ref (xa X 85)), (1, .int v1)] [] σ (if 98 ≤ v1 then k39 σ else xB (fX10_in N σ v1.toInt64 73 78) (fun y1 m2 => if y1 = 0 then xLet (xUp m2 86 v1.toNatClampNeg 0) (fun m4 => gd (xin v1 98) (fX10_empties_L2 N k39 n (v1 + 1) m4)) else xLet (xUp m2 86 v1.toNatClampNeg 3) (fun m7 => gd (xin v1 98) (fX10_empties_L2 N k39 n (v1 + 1) m7))))
    refine j_iload_n (pc := 2) rfl 1 rfl E dX10_empties_2 ?_
    refine j_bipush (pc := 3) (v := 98) (by decide) E dX10_empties_3 ?_
    refine j_icmp_ge (pc := 5) (tgt := 39) E dX10_empties_5 (by decide) ?_ ?_
    · refine JF.sub [] rfl ?_
      exact K39  σ
    · refine j_aload_n (pc := 8) rfl 0 rfl E dX10_empties_8 ?_
      refine j_get (pc := 9) E xuX10 rfl s_85 (k := 0) (by decide) q_1082 rfl (xflds_ref rfl) dX10_empties_9 ?_
      refine j_iload_n (pc := 12) rfl 1 rfl E dX10_empties_12 ?_
      refine j_iload_n (pc := 13) rfl 1 rfl E dX10_empties_13 ?_
      refine j_i2l (pc := 14) E dX10_empties_14 ?_
      refine j_ldc2 (pc := 15) (v := 73) E q_1077 dX10_empties_15 ?_
      refine j_ldc2 (pc := 18) (v := 78) E q_1078 dX10_empties_18 ?_
      refine JF.xb (fun y1 m2 h3 => ?_)
      refine j_callSi (pc := 21) (st := [.int v1, .ref (xa X 86)]) E (kX10_in h3) mv_X10_in q_1079 [.long v1.toInt64, .long 73, .long 78] rfl rfl rfl (by decide) (Nat.le_of_ble_eq_true rfl) dX10_empties_21 ?_
      refine j_if_eq (pc := 24) (tgt := 31) E dX10_empties_24 (by decide) ?_ ?_
      · refine j_iconst (pc := 31) (v := 0) (by decide) E dX10_empties_31 ?_
        refine JF.xlet (fun m4 e5 => ?_)
        refine j_iast (pc := 32) E s_86 dX10_empties_32 e5 ?_
        refine j_iinc (pc := 33) (v := (v1 + 1)) (lv1 := [(1, .int (v1 + 1)), (0, .ref (xa X 85))]) E dX10_empties_33 1 rfl rfl (by decide) rfl ?_
        refine j_goto (pc := 36) (tgt := 2) E dX10_empties_36 (by decide) ?_
        refine JF.sub [1, 0] rfl ?_
        exact ih (v1 + 1) m4
      · refine j_iconst (pc := 27) (v := 3) (by decide) E dX10_empties_27 ?_
        refine j_goto (pc := 28) (tgt := 32) E dX10_empties_28 (by decide) ?_
        refine JF.xlet (fun m7 e8 => ?_)
        refine j_iast (pc := 32) E s_86 dX10_empties_32 e8 ?_
        refine j_iinc (pc := 33) (v := (v1 + 1)) (lv1 := [(1, .int (v1 + 1)), (0, .ref (xa X 85))]) E dX10_empties_33 1 rfl rfl (by decide) rfl ?_
        refine j_goto (pc := 36) (tgt := 2) E dX10_empties_36 (by decide) ?_
        refine JF.sub [1, 0] rfl ?_
        exact ih (v1 + 1) m7
def fX10_empties (N : Nat) (σ : XS) : Option XO := fX10_empties_L2 N (fun m10 => some (0, m10)) N 0 σ
set_option maxRecDepth 100000 in
set_option maxHeartbeats 4000000 in
theorem kX10_empties {N : Nat} {σ : XS} {o : XO} (h : fX10_empties N σ = some o) : CtV yX10_empties cX10_empties 2 none 1 25 (fun Am ad => [.ref (Am 85)]) σ o := by
  refine ct_void (by decide) (fun _ _ => Nat.le_of_ble_eq_true rfl) (fun X E R => ?_)
  rw [← h]
  show JF X o 2 0 [(0, .ref (xa X 85))] [] σ (fX10_empties_L2 N (fun m10 => some (0, m10)) N 0 σ)
  refine j_iconst (pc := 0) (v := 0) (by decide) E dX10_empties_0 ?_
  refine j_istore_n (pc := 1) (lv1 := [(1, .int 0), (0, .ref (xa X 85))]) E dX10_empties_1 rfl (by decide) rfl ?_
  refine JF.sub [1, 0] rfl ?_
  refine lX10_empties_L2 N _ E R (fun m10 => ?_) N 0 σ
  · exact j_vret (pc := 39) E R dX10_empties_39
def fX10_isWord (N : Nat) (σ : XS) (p1 : Int32) : Option XO := gd (xin 0 98) (xB (fX10_in N σ p1.toInt64 0 (((σ 86 (0 : Int32).toNatClampNeg) - 1).toInt64)) (fun y1 m2 => gd (decide (y1 = 0) || decide (y1 = 1)) (some (y1, m2))))
set_option maxRecDepth 100000 in
set_option maxHeartbeats 4000000 in
theorem kX10_isWord {N : Nat} {σ : XS} {p1 : Int32} {o : XO} (h : fX10_isWord N σ p1 = some o) : CtI yX10_isWord cX10_isWord 2 (some .boolean) 1 25 (fun Am ad => [.ref (Am 85), .int p1]) σ o := by
  refine ct_z (by decide) (fun _ _ => Nat.le_of_ble_eq_true rfl) (fun X E R => ?_)
  rw [← h]
  show JF X o 2 0 [(0, .ref (xa X 85)), (1, .int p1)] [] σ (gd (xin 0 98) (xB (fX10_in N σ p1.toInt64 0 (((σ 86 (0 : Int32).toNatClampNeg) - 1).toInt64)) (fun y1 m2 => gd (decide (y1 = 0) || decide (y1 = 1)) (some (y1, m2)))))
  refine j_iload_n (pc := 0) rfl 1 rfl E dX10_isWord_0 ?_
  refine j_i2l (pc := 1) E dX10_isWord_1 ?_
  refine j_lconst (pc := 2) (v := 0) (by decide) E dX10_isWord_2 ?_
  refine j_aload_n (pc := 3) rfl 0 rfl E dX10_isWord_3 ?_
  refine j_get (pc := 4) E xuX10 rfl s_85 (k := 0) (by decide) q_1082 rfl (xflds_ref rfl) dX10_isWord_4 ?_
  refine j_iconst (pc := 7) (v := 0) (by decide) E dX10_isWord_7 ?_
  refine j_iald (pc := 8) E s_86 dX10_isWord_8 ?_
  refine j_iconst (pc := 9) (v := 1) (by decide) E dX10_isWord_9 ?_
  refine j_isub (pc := 10) E dX10_isWord_10 ?_
  refine j_i2l (pc := 11) E dX10_isWord_11 ?_
  refine JF.xb (fun y1 m2 h3 => ?_)
  refine j_callSi (pc := 12) (st := []) E (kX10_in h3) mv_X10_in q_1079 [.long p1.toInt64, .long 0, .long (((σ 86 (0 : Int32).toNatClampNeg) - 1).toInt64)] rfl rfl rfl (by decide) (Nat.le_of_ble_eq_true rfl) dX10_isWord_12 ?_
  exact j_zretg (pc := 15) E R dX10_isWord_15
def fX10_isWare (N : Nat) (σ : XS) (p1 : Int32) : Option XO := gd (xin 1 98) (xB (fX10_in N σ p1.toInt64 0 (((σ 86 (1 : Int32).toNatClampNeg) - 1).toInt64)) (fun y1 m2 => gd (decide (y1 = 0) || decide (y1 = 1)) (some (y1, m2))))
set_option maxRecDepth 100000 in
set_option maxHeartbeats 4000000 in
theorem kX10_isWare {N : Nat} {σ : XS} {p1 : Int32} {o : XO} (h : fX10_isWare N σ p1 = some o) : CtI yX10_isWare cX10_isWare 2 (some .boolean) 1 25 (fun Am ad => [.ref (Am 85), .int p1]) σ o := by
  refine ct_z (by decide) (fun _ _ => Nat.le_of_ble_eq_true rfl) (fun X E R => ?_)
  rw [← h]
  show JF X o 2 0 [(0, .ref (xa X 85)), (1, .int p1)] [] σ (gd (xin 1 98) (xB (fX10_in N σ p1.toInt64 0 (((σ 86 (1 : Int32).toNatClampNeg) - 1).toInt64)) (fun y1 m2 => gd (decide (y1 = 0) || decide (y1 = 1)) (some (y1, m2)))))
  refine j_iload_n (pc := 0) rfl 1 rfl E dX10_isWare_0 ?_
  refine j_i2l (pc := 1) E dX10_isWare_1 ?_
  refine j_lconst (pc := 2) (v := 0) (by decide) E dX10_isWare_2 ?_
  refine j_aload_n (pc := 3) rfl 0 rfl E dX10_isWare_3 ?_
  refine j_get (pc := 4) E xuX10 rfl s_85 (k := 0) (by decide) q_1082 rfl (xflds_ref rfl) dX10_isWare_4 ?_
  refine j_iconst (pc := 7) (v := 1) (by decide) E dX10_isWare_7 ?_
  refine j_iald (pc := 8) E s_86 dX10_isWare_8 ?_
  refine j_iconst (pc := 9) (v := 1) (by decide) E dX10_isWare_9 ?_
  refine j_isub (pc := 10) E dX10_isWare_10 ?_
  refine j_i2l (pc := 11) E dX10_isWare_11 ?_
  refine JF.xb (fun y1 m2 h3 => ?_)
  refine j_callSi (pc := 12) (st := []) E (kX10_in h3) mv_X10_in q_1079 [.long p1.toInt64, .long 0, .long (((σ 86 (1 : Int32).toNatClampNeg) - 1).toInt64)] rfl rfl rfl (by decide) (Nat.le_of_ble_eq_true rfl) dX10_isWare_12 ?_
  exact j_zretg (pc := 15) E R dX10_isWare_15
def fX10_isClerk (N : Nat) (σ : XS) (p1 : Int32) : Option XO := gd (xin 2 98) (xB (fX10_in N σ p1.toInt64 0 (((σ 86 (2 : Int32).toNatClampNeg) - 1).toInt64)) (fun y1 m2 => gd (decide (y1 = 0) || decide (y1 = 1)) (some (y1, m2))))
set_option maxRecDepth 100000 in
set_option maxHeartbeats 4000000 in
theorem kX10_isClerk {N : Nat} {σ : XS} {p1 : Int32} {o : XO} (h : fX10_isClerk N σ p1 = some o) : CtI yX10_isClerk cX10_isClerk 2 (some .boolean) 1 25 (fun Am ad => [.ref (Am 85), .int p1]) σ o := by
  refine ct_z (by decide) (fun _ _ => Nat.le_of_ble_eq_true rfl) (fun X E R => ?_)
  rw [← h]
  show JF X o 2 0 [(0, .ref (xa X 85)), (1, .int p1)] [] σ (gd (xin 2 98) (xB (fX10_in N σ p1.toInt64 0 (((σ 86 (2 : Int32).toNatClampNeg) - 1).toInt64)) (fun y1 m2 => gd (decide (y1 = 0) || decide (y1 = 1)) (some (y1, m2)))))
  refine j_iload_n (pc := 0) rfl 1 rfl E dX10_isClerk_0 ?_
  refine j_i2l (pc := 1) E dX10_isClerk_1 ?_
  refine j_lconst (pc := 2) (v := 0) (by decide) E dX10_isClerk_2 ?_
  refine j_aload_n (pc := 3) rfl 0 rfl E dX10_isClerk_3 ?_
  refine j_get (pc := 4) E xuX10 rfl s_85 (k := 0) (by decide) q_1082 rfl (xflds_ref rfl) dX10_isClerk_4 ?_
  refine j_iconst (pc := 7) (v := 2) (by decide) E dX10_isClerk_7 ?_
  refine j_iald (pc := 8) E s_86 dX10_isClerk_8 ?_
  refine j_iconst (pc := 9) (v := 1) (by decide) E dX10_isClerk_9 ?_
  refine j_isub (pc := 10) E dX10_isClerk_10 ?_
  refine j_i2l (pc := 11) E dX10_isClerk_11 ?_
  refine JF.xb (fun y1 m2 h3 => ?_)
  refine j_callSi (pc := 12) (st := []) E (kX10_in h3) mv_X10_in q_1079 [.long p1.toInt64, .long 0, .long (((σ 86 (2 : Int32).toNatClampNeg) - 1).toInt64)] rfl rfl rfl (by decide) (Nat.le_of_ble_eq_true rfl) dX10_isClerk_12 ?_
  exact j_zretg (pc := 15) E R dX10_isClerk_15
def fX10_areBoth (N : Nat) (σ : XS) (p1 : Int32) (p2 : Int32) : Option XO := xB (fX10_isWare N σ p1) (fun y1 m2 => if y1 = 0 then some (0, m2) else xB (fX10_isClerk N m2 p2) (fun y4 m5 => if y4 = 0 then some (0, m5) else some (1, m5)))
set_option maxRecDepth 100000 in
set_option maxHeartbeats 4000000 in
theorem kX10_areBoth {N : Nat} {σ : XS} {p1 : Int32} {p2 : Int32} {o : XO} (h : fX10_areBoth N σ p1 p2 = some o) : CtI yX10_areBoth cX10_areBoth 3 (some .boolean) 2 46 (fun Am ad => [.ref (Am 85), .int p1, .int p2]) σ o := by
  refine ct_z (by decide) (fun _ _ => Nat.le_of_ble_eq_true rfl) (fun X E R => ?_)
  rw [← h]
  show JF X o 3 0 [(0, .ref (xa X 85)), (1, .int p1), (2, .int p2)] [] σ (xB (fX10_isWare N σ p1) (fun y1 m2 => if y1 = 0 then some (0, m2) else xB (fX10_isClerk N m2 p2) (fun y4 m5 => if y4 = 0 then some (0, m5) else some (1, m5))))
  refine j_aload_n (pc := 0) rfl 0 rfl E dX10_areBoth_0 ?_
  refine j_iload_n (pc := 1) rfl 1 rfl E dX10_areBoth_1 ?_
  refine JF.xb (fun y1 m2 h3 => ?_)
  refine j_callVi (pc := 2) (st := []) E (kX10_isWare h3) mv_X10_isWare rfl s_85 q_1242 [.int p1] rfl rfl rfl (by decide) (Nat.le_of_ble_eq_true rfl) dX10_areBoth_2 ?_
  refine j_if_eq (pc := 5) (tgt := 20) E dX10_areBoth_5 (by decide) ?_ ?_
  · refine j_iconst (pc := 20) (v := 0) (by decide) E dX10_areBoth_20 ?_
    exact j_zret (pc := 21) E R rfl dX10_areBoth_21
  · refine j_aload_n (pc := 8) rfl 0 rfl E dX10_areBoth_8 ?_
    refine j_iload_n (pc := 9) rfl 2 rfl E dX10_areBoth_9 ?_
    refine JF.xb (fun y4 m5 h6 => ?_)
    refine j_callVi (pc := 10) (st := []) E (kX10_isClerk h6) mv_X10_isClerk rfl s_85 q_1251 [.int p2] rfl rfl rfl (by decide) (Nat.le_of_ble_eq_true rfl) dX10_areBoth_10 ?_
    refine j_if_eq (pc := 13) (tgt := 20) E dX10_areBoth_13 (by decide) ?_ ?_
    · refine j_iconst (pc := 20) (v := 0) (by decide) E dX10_areBoth_20 ?_
      exact j_zret (pc := 21) E R rfl dX10_areBoth_21
    · refine j_iconst (pc := 16) (v := 1) (by decide) E dX10_areBoth_16 ?_
      refine j_goto (pc := 17) (tgt := 21) E dX10_areBoth_17 (by decide) ?_
      exact j_zret (pc := 21) E R rfl dX10_areBoth_21
def fX10_write (N : Nat) (σ : XS) (p1 : Int32) : Option XO := xB (fX10_in N σ p1.toInt64 0 255) (fun y1 m2 => if y1 = 0 then some ((-3), m2) else if (m2 85 11) = 160 then some ((-5), m2) else xLet (xUp m2 92 (m2 85 11).toNatClampNeg p1) (fun m4 => gd (xin (m2 85 11) 160) (xLet (xUp m4 85 11 ((m4 85 11) + 1)) (fun m7 => some ((m7 85 11), m7)))))
set_option maxRecDepth 100000 in
set_option maxHeartbeats 4000000 in
theorem kX10_write {N : Nat} {σ : XS} {p1 : Int32} {o : XO} (h : fX10_write N σ p1 = some o) : CtI yX10_write cX10_write 2 (some .int) 1 25 (fun Am ad => [.ref (Am 85), .int p1]) σ o := by
  refine ct_int (by decide) (fun _ _ => Nat.le_of_ble_eq_true rfl) (fun X E R => ?_)
  rw [← h]
  show JF X o 2 0 [(0, .ref (xa X 85)), (1, .int p1)] [] σ (xB (fX10_in N σ p1.toInt64 0 255) (fun y1 m2 => if y1 = 0 then some ((-3), m2) else if (m2 85 11) = 160 then some ((-5), m2) else xLet (xUp m2 92 (m2 85 11).toNatClampNeg p1) (fun m4 => gd (xin (m2 85 11) 160) (xLet (xUp m4 85 11 ((m4 85 11) + 1)) (fun m7 => some ((m7 85 11), m7))))))
  refine j_iload_n (pc := 0) rfl 1 rfl E dX10_write_0 ?_
  refine j_i2l (pc := 1) E dX10_write_1 ?_
  refine j_lconst (pc := 2) (v := 0) (by decide) E dX10_write_2 ?_
  refine j_ldc2 (pc := 3) (v := 255) E q_1168 dX10_write_3 ?_
  refine JF.xb (fun y1 m2 h3 => ?_)
  refine j_callSi (pc := 6) (st := []) E (kX10_in h3) mv_X10_in q_1079 [.long p1.toInt64, .long 0, .long 255] rfl rfl rfl (by decide) (Nat.le_of_ble_eq_true rfl) dX10_write_6 ?_
  refine j_if_ne (pc := 9) (tgt := 15) E dX10_write_9 (by decide) ?_ ?_
  · refine j_bipush (pc := 12) (v := (-3)) (by decide) E dX10_write_12 ?_
    exact j_iret (pc := 14) E R dX10_write_14
  · refine j_aload_n (pc := 15) rfl 0 rfl E dX10_write_15 ?_
    refine j_get (pc := 16) E xuX10 rfl s_85 (k := 11) (by decide) q_1093 rfl (xflds_int rfl) dX10_write_16 ?_
    refine j_sipush (pc := 19) (v := 160) (by decide) E dX10_write_19 ?_
    refine j_icmp_ne (pc := 22) (tgt := 28) E dX10_write_22 (by decide) ?_ ?_
    · refine j_bipush (pc := 25) (v := (-5)) (by decide) E dX10_write_25 ?_
      exact j_iret (pc := 27) E R dX10_write_27
    · refine j_aload_n (pc := 28) rfl 0 rfl E dX10_write_28 ?_
      refine j_get (pc := 29) E xuX10 rfl s_85 (k := 10) (by decide) q_1092 rfl (xflds_ref rfl) dX10_write_29 ?_
      refine j_aload_n (pc := 32) rfl 0 rfl E dX10_write_32 ?_
      refine j_get (pc := 33) E xuX10 rfl s_85 (k := 11) (by decide) q_1093 rfl (xflds_int rfl) dX10_write_33 ?_
      refine j_iload_n (pc := 36) rfl 1 rfl E dX10_write_36 ?_
      refine JF.xlet (fun m4 e5 => ?_)
      refine j_iast (pc := 37) E s_92 dX10_write_37 e5 ?_
      refine j_aload_n (pc := 38) rfl 0 rfl E dX10_write_38 ?_
      refine j_dup (pc := 39) rfl E dX10_write_39 ?_
      refine j_get (pc := 40) E xuX10 rfl s_85 (k := 11) (by decide) q_1093 rfl (xflds_int rfl) dX10_write_40 ?_
      refine j_iconst (pc := 43) (v := 1) (by decide) E dX10_write_43 ?_
      refine j_iadd (pc := 44) E dX10_write_44 ?_
      refine JF.xlet (fun m7 e8 => ?_)
      refine j_put (pc := 45) E xuX10 tyX10 tyX10_ok nmX10 rfl s_85 rfl (k := 11) (by decide) q_1093 rfl rfl (ty := .int) (by decide +kernel) rfl rfl dX10_write_45 e8 ?_
      refine j_aload_n (pc := 48) rfl 0 rfl E dX10_write_48 ?_
      refine j_get (pc := 49) E xuX10 rfl s_85 (k := 11) (by decide) q_1093 rfl (xflds_int rfl) dX10_write_49 ?_
      exact j_iret (pc := 52) E R dX10_write_52
def fX10_erase (N : Nat) (σ : XS) : Option XO := xLet (xUp σ 85 11 0) (fun m1 => some ((σ 85 11), m1))
set_option maxRecDepth 100000 in
set_option maxHeartbeats 4000000 in
theorem kX10_erase {N : Nat} {σ : XS} {o : XO} (h : fX10_erase N σ = some o) : CtI yX10_erase cX10_erase 2 (some .int) 0 0 (fun Am ad => [.ref (Am 85)]) σ o := by
  refine ct_int (by decide) (fun _ _ => Nat.le_of_ble_eq_true rfl) (fun X E R => ?_)
  rw [← h]
  show JF X o 2 0 [(0, .ref (xa X 85))] [] σ (xLet (xUp σ 85 11 0) (fun m1 => some ((σ 85 11), m1)))
  refine j_aload_n (pc := 0) rfl 0 rfl E dX10_erase_0 ?_
  refine j_get (pc := 1) E xuX10 rfl s_85 (k := 11) (by decide) q_1093 rfl (xflds_int rfl) dX10_erase_1 ?_
  refine j_istore_n (pc := 4) (lv1 := [(1, .int (σ 85 11)), (0, .ref (xa X 85))]) E dX10_erase_4 rfl (by decide) rfl ?_
  refine j_aload_n (pc := 5) rfl 1 rfl E dX10_erase_5 ?_
  refine j_iconst (pc := 6) (v := 0) (by decide) E dX10_erase_6 ?_
  refine JF.xlet (fun m1 e2 => ?_)
  refine j_put (pc := 7) E xuX10 tyX10 tyX10_ok nmX10 rfl s_85 rfl (k := 11) (by decide) q_1093 rfl rfl (ty := .int) (by decide +kernel) rfl rfl dX10_erase_7 e2 ?_
  refine j_iload_n (pc := 10) rfl 0 rfl E dX10_erase_10 ?_
  exact j_iret (pc := 11) E R dX10_erase_11
def fX10_isAt (N : Nat) (σ : XS) (p1 : Int32) (p2 : Int32) : Option XO := if (σ 85 11) ≤ (σ 85 12) then some (0, σ) else gd (xin (σ 85 12) 160) (xB (fX10_in N σ ((σ 92 (σ 85 12).toNatClampNeg).toInt64) p1.toInt64 p2.toInt64) (fun y1 m2 => if y1 = 0 then some (0, m2) else some (1, m2)))
set_option maxRecDepth 100000 in
set_option maxHeartbeats 4000000 in
theorem kX10_isAt {N : Nat} {σ : XS} {p1 : Int32} {p2 : Int32} {o : XO} (h : fX10_isAt N σ p1 p2 = some o) : CtI yX10_isAt cX10_isAt 3 (some .boolean) 1 25 (fun Am ad => [.ref (Am 85), .int p1, .int p2]) σ o := by
  refine ct_z (by decide) (fun _ _ => Nat.le_of_ble_eq_true rfl) (fun X E R => ?_)
  rw [← h]
  show JF X o 3 0 [(0, .ref (xa X 85)), (1, .int p1), (2, .int p2)] [] σ (if (σ 85 11) ≤ (σ 85 12) then some (0, σ) else gd (xin (σ 85 12) 160) (xB (fX10_in N σ ((σ 92 (σ 85 12).toNatClampNeg).toInt64) p1.toInt64 p2.toInt64) (fun y1 m2 => if y1 = 0 then some (0, m2) else some (1, m2))))
  refine j_aload_n (pc := 0) rfl 0 rfl E dX10_isAt_0 ?_
  refine j_get (pc := 1) E xuX10 rfl s_85 (k := 12) (by decide) q_1094 rfl (xflds_int rfl) dX10_isAt_1 ?_
  refine j_aload_n (pc := 4) rfl 0 rfl E dX10_isAt_4 ?_
  refine j_get (pc := 5) E xuX10 rfl s_85 (k := 11) (by decide) q_1093 rfl (xflds_int rfl) dX10_isAt_5 ?_
  refine j_icmp_ge (pc := 8) (tgt := 35) E dX10_isAt_8 (by decide) ?_ ?_
  · refine j_iconst (pc := 35) (v := 0) (by decide) E dX10_isAt_35 ?_
    exact j_zret (pc := 36) E R rfl dX10_isAt_36
  · refine j_aload_n (pc := 11) rfl 0 rfl E dX10_isAt_11 ?_
    refine j_get (pc := 12) E xuX10 rfl s_85 (k := 10) (by decide) q_1092 rfl (xflds_ref rfl) dX10_isAt_12 ?_
    refine j_aload_n (pc := 15) rfl 0 rfl E dX10_isAt_15 ?_
    refine j_get (pc := 16) E xuX10 rfl s_85 (k := 12) (by decide) q_1094 rfl (xflds_int rfl) dX10_isAt_16 ?_
    refine j_iald (pc := 19) E s_92 dX10_isAt_19 ?_
    refine j_i2l (pc := 20) E dX10_isAt_20 ?_
    refine j_iload_n (pc := 21) rfl 1 rfl E dX10_isAt_21 ?_
    refine j_i2l (pc := 22) E dX10_isAt_22 ?_
    refine j_iload_n (pc := 23) rfl 2 rfl E dX10_isAt_23 ?_
    refine j_i2l (pc := 24) E dX10_isAt_24 ?_
    refine JF.xb (fun y1 m2 h3 => ?_)
    refine j_callSi (pc := 25) (st := []) E (kX10_in h3) mv_X10_in q_1079 [.long ((σ 92 (σ 85 12).toNatClampNeg).toInt64), .long p1.toInt64, .long p2.toInt64] rfl rfl rfl (by decide) (Nat.le_of_ble_eq_true rfl) dX10_isAt_25 ?_
    refine j_if_eq (pc := 28) (tgt := 35) E dX10_isAt_28 (by decide) ?_ ?_
    · refine j_iconst (pc := 35) (v := 0) (by decide) E dX10_isAt_35 ?_
      exact j_zret (pc := 36) E R rfl dX10_isAt_36
    · refine j_iconst (pc := 31) (v := 1) (by decide) E dX10_isAt_31 ?_
      refine j_goto (pc := 32) (tgt := 36) E dX10_isAt_32 (by decide) ?_
      exact j_zret (pc := 36) E R rfl dX10_isAt_36
def fX10_verbOf_J181 (N : Nat) (v2 : Int32) (v3 : Int32) (t0 : Int32) (σ : XS) : Option XO := if v2 = (-1) then if v3 = (-1) then some (t0, σ) else some (v3, σ) else some (v2, σ)
set_option maxRecDepth 100000 in
set_option maxHeartbeats 4000000 in
theorem lX10_verbOf_J181 (N : Nat) (v2 : Int32) (v3 : Int32) (t0 : Int32) {X : XC} {o : XO} (E : XE X cX10_verbOf RX10 5 0 0) (R : XI X o cX10_verbOf) (σ : XS) : JF X o 5 181 [(2, .int v2), (3, .int v3)] [.int t0] σ (fX10_verbOf_J181 N v2 v3 t0 σ) := by
  show JF X o 5 181 [(2, .int v2), (3, .int v3)] [.int t0] σ (if v2 = (-1) then if v3 = (-1) then some (t0, σ) else some (v3, σ) else some (v2, σ))
  refine j_istore (pc := 181) (lv1 := [(4, .int t0), (2, .int v2), (3, .int v3)]) E dX10_verbOf_181 (by decide) rfl ?_
  refine j_iload_n (pc := 183) rfl 1 rfl E dX10_verbOf_183 ?_
  refine j_iconst (pc := 184) (v := (-1)) (by decide) E dX10_verbOf_184 ?_
  refine j_icmp_eq (pc := 185) (tgt := 192) E dX10_verbOf_185 (by decide) ?_ ?_
  · refine j_iload_n (pc := 192) rfl 2 rfl E dX10_verbOf_192 ?_
    refine j_iconst (pc := 193) (v := (-1)) (by decide) E dX10_verbOf_193 ?_
    refine j_icmp_eq (pc := 194) (tgt := 201) E dX10_verbOf_194 (by decide) ?_ ?_
    · refine j_iload (pc := 201) 0 rfl E dX10_verbOf_201 ?_
      exact j_iret (pc := 203) E R dX10_verbOf_203
    · refine j_iload_n (pc := 197) rfl 2 rfl E dX10_verbOf_197 ?_
      refine j_goto (pc := 198) (tgt := 203) E dX10_verbOf_198 (by decide) ?_
      exact j_iret (pc := 203) E R dX10_verbOf_203
  · refine j_iload_n (pc := 188) rfl 1 rfl E dX10_verbOf_188 ?_
    refine j_goto (pc := 189) (tgt := 203) E dX10_verbOf_189 (by decide) ?_
    exact j_iret (pc := 203) E R dX10_verbOf_203
def fX10_verbOf_J127 (N : Nat) (v0 : Int64) (v2 : Int32) (t0 : Int32) (σ : XS) : Option XO := if (lg_cmp v0 614049223) = 0 then fX10_verbOf_J181 N v2 t0 10 σ else if (lg_cmp v0 6488991175) = 0 then fX10_verbOf_J181 N v2 t0 11 σ else if (lg_cmp v0 707763) = 0 then fX10_verbOf_J181 N v2 t0 12 σ else if (lg_cmp v0 3946462643) = 0 then fX10_verbOf_J181 N v2 t0 13 σ else fX10_verbOf_J181 N v2 t0 (-1) σ
set_option maxRecDepth 100000 in
set_option maxHeartbeats 4000000 in
theorem lX10_verbOf_J127 (N : Nat) (v0 : Int64) (v2 : Int32) (t0 : Int32) {X : XC} {o : XO} (E : XE X cX10_verbOf RX10 5 0 0) (R : XI X o cX10_verbOf) (σ : XS) : JF X o 5 127 [(0, .long v0), (2, .int v2)] [.int t0] σ (fX10_verbOf_J127 N v0 v2 t0 σ) := by
  show JF X o 5 127 [(0, .long v0), (2, .int v2)] [.int t0] σ (if (lg_cmp v0 614049223) = 0 then fX10_verbOf_J181 N v2 t0 10 σ else if (lg_cmp v0 6488991175) = 0 then fX10_verbOf_J181 N v2 t0 11 σ else if (lg_cmp v0 707763) = 0 then fX10_verbOf_J181 N v2 t0 12 σ else if (lg_cmp v0 3946462643) = 0 then fX10_verbOf_J181 N v2 t0 13 σ else fX10_verbOf_J181 N v2 t0 (-1) σ)
  refine j_istore_n (pc := 127) (lv1 := [(3, .int t0), (0, .long v0), (2, .int v2)]) E dX10_verbOf_127 rfl (by decide) rfl ?_
  refine j_lload_n (pc := 128) rfl 1 rfl E dX10_verbOf_128 ?_
  refine j_ldc2 (pc := 129) (v := 614049223) E q_1204 dX10_verbOf_129 ?_
  refine j_lcmp (pc := 132) E dX10_verbOf_132 ?_
  refine j_if_ne (pc := 133) (tgt := 141) E dX10_verbOf_133 (by decide) ?_ ?_
  · refine j_bipush (pc := 136) (v := 10) (by decide) E dX10_verbOf_136 ?_
    refine j_goto (pc := 138) (tgt := 181) E dX10_verbOf_138 (by decide) ?_
    refine JF.sub [2, 0] rfl ?_
    exact lX10_verbOf_J181 N v2 t0 10 E R σ
  · refine j_lload_n (pc := 141) rfl 1 rfl E dX10_verbOf_141 ?_
    refine j_ldc2 (pc := 142) (v := 6488991175) E q_1205 dX10_verbOf_142 ?_
    refine j_lcmp (pc := 145) E dX10_verbOf_145 ?_
    refine j_if_ne (pc := 146) (tgt := 154) E dX10_verbOf_146 (by decide) ?_ ?_
    · refine j_bipush (pc := 149) (v := 11) (by decide) E dX10_verbOf_149 ?_
      refine j_goto (pc := 151) (tgt := 181) E dX10_verbOf_151 (by decide) ?_
      refine JF.sub [2, 0] rfl ?_
      exact lX10_verbOf_J181 N v2 t0 11 E R σ
    · refine j_lload_n (pc := 154) rfl 1 rfl E dX10_verbOf_154 ?_
      refine j_ldc2 (pc := 155) (v := 707763) E q_1206 dX10_verbOf_155 ?_
      refine j_lcmp (pc := 158) E dX10_verbOf_158 ?_
      refine j_if_ne (pc := 159) (tgt := 167) E dX10_verbOf_159 (by decide) ?_ ?_
      · refine j_bipush (pc := 162) (v := 12) (by decide) E dX10_verbOf_162 ?_
        refine j_goto (pc := 164) (tgt := 181) E dX10_verbOf_164 (by decide) ?_
        refine JF.sub [2, 0] rfl ?_
        exact lX10_verbOf_J181 N v2 t0 12 E R σ
      · refine j_lload_n (pc := 167) rfl 1 rfl E dX10_verbOf_167 ?_
        refine j_ldc2 (pc := 168) (v := 3946462643) E q_1207 dX10_verbOf_168 ?_
        refine j_lcmp (pc := 171) E dX10_verbOf_171 ?_
        refine j_if_ne (pc := 172) (tgt := 180) E dX10_verbOf_172 (by decide) ?_ ?_
        · refine j_bipush (pc := 175) (v := 13) (by decide) E dX10_verbOf_175 ?_
          refine j_goto (pc := 177) (tgt := 181) E dX10_verbOf_177 (by decide) ?_
          refine JF.sub [2, 0] rfl ?_
          exact lX10_verbOf_J181 N v2 t0 13 E R σ
        · refine j_iconst (pc := 180) (v := (-1)) (by decide) E dX10_verbOf_180 ?_
          refine JF.sub [2, 0] rfl ?_
          exact lX10_verbOf_J181 N v2 t0 (-1) E R σ
def fX10_verbOf_J61 (N : Nat) (v0 : Int64) (t0 : Int32) (σ : XS) : Option XO := if (lg_cmp v0 755269) = 0 then fX10_verbOf_J127 N v0 t0 5 σ else if (lg_cmp v0 659104884) = 0 then fX10_verbOf_J127 N v0 t0 6 σ else if (lg_cmp v0 666444047815) = 0 then fX10_verbOf_J127 N v0 t0 7 σ else if (lg_cmp v0 136230) = 0 then fX10_verbOf_J127 N v0 t0 8 σ else if (lg_cmp v0 474565) = 0 then fX10_verbOf_J127 N v0 t0 9 σ else fX10_verbOf_J127 N v0 t0 (-1) σ
set_option maxRecDepth 100000 in
set_option maxHeartbeats 4000000 in
theorem lX10_verbOf_J61 (N : Nat) (v0 : Int64) (t0 : Int32) {X : XC} {o : XO} (E : XE X cX10_verbOf RX10 5 0 0) (R : XI X o cX10_verbOf) (σ : XS) : JF X o 5 61 [(0, .long v0)] [.int t0] σ (fX10_verbOf_J61 N v0 t0 σ) := by
  show JF X o 5 61 [(0, .long v0)] [.int t0] σ (if (lg_cmp v0 755269) = 0 then fX10_verbOf_J127 N v0 t0 5 σ else if (lg_cmp v0 659104884) = 0 then fX10_verbOf_J127 N v0 t0 6 σ else if (lg_cmp v0 666444047815) = 0 then fX10_verbOf_J127 N v0 t0 7 σ else if (lg_cmp v0 136230) = 0 then fX10_verbOf_J127 N v0 t0 8 σ else if (lg_cmp v0 474565) = 0 then fX10_verbOf_J127 N v0 t0 9 σ else fX10_verbOf_J127 N v0 t0 (-1) σ)
  refine j_istore_n (pc := 61) (lv1 := [(2, .int t0), (0, .long v0)]) E dX10_verbOf_61 rfl (by decide) rfl ?_
  refine j_lload_n (pc := 62) rfl 1 rfl E dX10_verbOf_62 ?_
  refine j_ldc2 (pc := 63) (v := 755269) E q_1199 dX10_verbOf_63 ?_
  refine j_lcmp (pc := 66) E dX10_verbOf_66 ?_
  refine j_if_ne (pc := 67) (tgt := 74) E dX10_verbOf_67 (by decide) ?_ ?_
  · refine j_iconst (pc := 70) (v := 5) (by decide) E dX10_verbOf_70 ?_
    refine j_goto (pc := 71) (tgt := 127) E dX10_verbOf_71 (by decide) ?_
    refine JF.sub [1, 0] rfl ?_
    exact lX10_verbOf_J127 N v0 t0 5 E R σ
  · refine j_lload_n (pc := 74) rfl 1 rfl E dX10_verbOf_74 ?_
    refine j_ldc2 (pc := 75) (v := 659104884) E q_1200 dX10_verbOf_75 ?_
    refine j_lcmp (pc := 78) E dX10_verbOf_78 ?_
    refine j_if_ne (pc := 79) (tgt := 87) E dX10_verbOf_79 (by decide) ?_ ?_
    · refine j_bipush (pc := 82) (v := 6) (by decide) E dX10_verbOf_82 ?_
      refine j_goto (pc := 84) (tgt := 127) E dX10_verbOf_84 (by decide) ?_
      refine JF.sub [1, 0] rfl ?_
      exact lX10_verbOf_J127 N v0 t0 6 E R σ
    · refine j_lload_n (pc := 87) rfl 1 rfl E dX10_verbOf_87 ?_
      refine j_ldc2 (pc := 88) (v := 666444047815) E q_1201 dX10_verbOf_88 ?_
      refine j_lcmp (pc := 91) E dX10_verbOf_91 ?_
      refine j_if_ne (pc := 92) (tgt := 100) E dX10_verbOf_92 (by decide) ?_ ?_
      · refine j_bipush (pc := 95) (v := 7) (by decide) E dX10_verbOf_95 ?_
        refine j_goto (pc := 97) (tgt := 127) E dX10_verbOf_97 (by decide) ?_
        refine JF.sub [1, 0] rfl ?_
        exact lX10_verbOf_J127 N v0 t0 7 E R σ
      · refine j_lload_n (pc := 100) rfl 1 rfl E dX10_verbOf_100 ?_
        refine j_ldc2 (pc := 101) (v := 136230) E q_1202 dX10_verbOf_101 ?_
        refine j_lcmp (pc := 104) E dX10_verbOf_104 ?_
        refine j_if_ne (pc := 105) (tgt := 113) E dX10_verbOf_105 (by decide) ?_ ?_
        · refine j_bipush (pc := 108) (v := 8) (by decide) E dX10_verbOf_108 ?_
          refine j_goto (pc := 110) (tgt := 127) E dX10_verbOf_110 (by decide) ?_
          refine JF.sub [1, 0] rfl ?_
          exact lX10_verbOf_J127 N v0 t0 8 E R σ
        · refine j_lload_n (pc := 113) rfl 1 rfl E dX10_verbOf_113 ?_
          refine j_ldc2 (pc := 114) (v := 474565) E q_1203 dX10_verbOf_114 ?_
          refine j_lcmp (pc := 117) E dX10_verbOf_117 ?_
          refine j_if_ne (pc := 118) (tgt := 126) E dX10_verbOf_118 (by decide) ?_ ?_
          · refine j_bipush (pc := 121) (v := 9) (by decide) E dX10_verbOf_121 ?_
            refine j_goto (pc := 123) (tgt := 127) E dX10_verbOf_123 (by decide) ?_
            refine JF.sub [1, 0] rfl ?_
            exact lX10_verbOf_J127 N v0 t0 9 E R σ
          · refine j_iconst (pc := 126) (v := (-1)) (by decide) E dX10_verbOf_126 ?_
            refine JF.sub [1, 0] rfl ?_
            exact lX10_verbOf_J127 N v0 t0 (-1) E R σ
def fX10_verbOf (N : Nat) (σ : XS) (p1 : Int64) : Option XO := if (lg_cmp p1 17171758) = 0 then fX10_verbOf_J61 N p1 0 σ else if (lg_cmp p1 180654244) = 0 then fX10_verbOf_J61 N p1 1 σ else if (lg_cmp p1 6337125) = 0 then fX10_verbOf_J61 N p1 2 σ else if (lg_cmp p1 215205) = 0 then fX10_verbOf_J61 N p1 3 σ else if (lg_cmp p1 540244) = 0 then fX10_verbOf_J61 N p1 4 σ else fX10_verbOf_J61 N p1 (-1) σ
set_option maxRecDepth 100000 in
set_option maxHeartbeats 4000000 in
theorem kX10_verbOf {N : Nat} {σ : XS} {p1 : Int64} {o : XO} (h : fX10_verbOf N σ p1 = some o) : CtI yX10_verbOf cX10_verbOf 5 (some .int) 0 0 (fun Am ad => [.long p1]) σ o := by
  refine ct_int (by decide) (fun _ _ => Nat.le_of_ble_eq_true rfl) (fun X E R => ?_)
  rw [← h]
  show JF X o 5 0 [(0, .long p1)] [] σ (if (lg_cmp p1 17171758) = 0 then fX10_verbOf_J61 N p1 0 σ else if (lg_cmp p1 180654244) = 0 then fX10_verbOf_J61 N p1 1 σ else if (lg_cmp p1 6337125) = 0 then fX10_verbOf_J61 N p1 2 σ else if (lg_cmp p1 215205) = 0 then fX10_verbOf_J61 N p1 3 σ else if (lg_cmp p1 540244) = 0 then fX10_verbOf_J61 N p1 4 σ else fX10_verbOf_J61 N p1 (-1) σ)
  refine j_lload_n (pc := 0) rfl 0 rfl E dX10_verbOf_0 ?_
  refine j_ldc2 (pc := 1) (v := 17171758) E q_1194 dX10_verbOf_1 ?_
  refine j_lcmp (pc := 4) E dX10_verbOf_4 ?_
  refine j_if_ne (pc := 5) (tgt := 12) E dX10_verbOf_5 (by decide) ?_ ?_
  · refine j_iconst (pc := 8) (v := 0) (by decide) E dX10_verbOf_8 ?_
    refine j_goto (pc := 9) (tgt := 61) E dX10_verbOf_9 (by decide) ?_
    refine JF.sub [0] rfl ?_
    exact lX10_verbOf_J61 N p1 0 E R σ
  · refine j_lload_n (pc := 12) rfl 0 rfl E dX10_verbOf_12 ?_
    refine j_ldc2 (pc := 13) (v := 180654244) E q_1195 dX10_verbOf_13 ?_
    refine j_lcmp (pc := 16) E dX10_verbOf_16 ?_
    refine j_if_ne (pc := 17) (tgt := 24) E dX10_verbOf_17 (by decide) ?_ ?_
    · refine j_iconst (pc := 20) (v := 1) (by decide) E dX10_verbOf_20 ?_
      refine j_goto (pc := 21) (tgt := 61) E dX10_verbOf_21 (by decide) ?_
      refine JF.sub [0] rfl ?_
      exact lX10_verbOf_J61 N p1 1 E R σ
    · refine j_lload_n (pc := 24) rfl 0 rfl E dX10_verbOf_24 ?_
      refine j_ldc2 (pc := 25) (v := 6337125) E q_1196 dX10_verbOf_25 ?_
      refine j_lcmp (pc := 28) E dX10_verbOf_28 ?_
      refine j_if_ne (pc := 29) (tgt := 36) E dX10_verbOf_29 (by decide) ?_ ?_
      · refine j_iconst (pc := 32) (v := 2) (by decide) E dX10_verbOf_32 ?_
        refine j_goto (pc := 33) (tgt := 61) E dX10_verbOf_33 (by decide) ?_
        refine JF.sub [0] rfl ?_
        exact lX10_verbOf_J61 N p1 2 E R σ
      · refine j_lload_n (pc := 36) rfl 0 rfl E dX10_verbOf_36 ?_
        refine j_ldc2 (pc := 37) (v := 215205) E q_1197 dX10_verbOf_37 ?_
        refine j_lcmp (pc := 40) E dX10_verbOf_40 ?_
        refine j_if_ne (pc := 41) (tgt := 48) E dX10_verbOf_41 (by decide) ?_ ?_
        · refine j_iconst (pc := 44) (v := 3) (by decide) E dX10_verbOf_44 ?_
          refine j_goto (pc := 45) (tgt := 61) E dX10_verbOf_45 (by decide) ?_
          refine JF.sub [0] rfl ?_
          exact lX10_verbOf_J61 N p1 3 E R σ
        · refine j_lload_n (pc := 48) rfl 0 rfl E dX10_verbOf_48 ?_
          refine j_ldc2 (pc := 49) (v := 540244) E q_1198 dX10_verbOf_49 ?_
          refine j_lcmp (pc := 52) E dX10_verbOf_52 ?_
          refine j_if_ne (pc := 53) (tgt := 60) E dX10_verbOf_53 (by decide) ?_ ?_
          · refine j_iconst (pc := 56) (v := 4) (by decide) E dX10_verbOf_56 ?_
            refine j_goto (pc := 57) (tgt := 61) E dX10_verbOf_57 (by decide) ?_
            refine JF.sub [0] rfl ?_
            exact lX10_verbOf_J61 N p1 4 E R σ
          · refine j_iconst (pc := 60) (v := (-1)) (by decide) E dX10_verbOf_60 ?_
            refine JF.sub [0] rfl ?_
            exact lX10_verbOf_J61 N p1 (-1) E R σ
