def fX6_weigh_L21 (N : Nat) (v1 : Int32) (v2 : Int32) (k63 : Int32 → XS → Option XO) : Nat → Int32 → Int32 → XS → Option XO
  | 0, _, _, _ => none
  | n + 1, v3, v4, σ => if (σ 1 10) ≤ v4 then k63 v3 σ else xB (fX9_hasBit N σ v2 v4) (fun y1 m2 => if y1 = 0 then fX6_weigh_L21 N v1 v2 k63 n v3 (v4 + 1) m2 else xB (fX9_at N m2 7 v4) (fun y4 m5 => fX6_weigh_L21 N v1 v2 k63 n (v3 + y4) (v4 + 1) m5))
set_option maxRecDepth 100000 in
set_option maxHeartbeats 4000000 in
theorem lX6_weigh_L21 (N : Nat) (v1 : Int32) (v2 : Int32) (k63 : Int32 → XS → Option XO) {X : XC} {o : XO} (E : XE X cX6_weigh RX6 5 1 21) (R : XV X o cX6_weigh) (K63 : ∀ (v3 : Int32) (σ : XS), JF X o 5 63 [(0, .ref (xa X 73)), (1, .int v1), (2, .int v2), (3, .int v3)] [] σ (k63 v3 σ)) : ∀ (n : Nat) (v3 : Int32) (v4 : Int32) (σ : XS), JF X o 5 21 [(0, .ref (xa X 73)), (1, .int v1), (2, .int v2), (3, .int v3), (4, .int v4)] [] σ (fX6_weigh_L21 N v1 v2 k63 n v3 v4 σ) := by
  intro n
  induction n with
  | zero => intro v3 v4 σ; exact JF.none
  | succ n ih =>
    intro v3 v4 σ
    show JF X o 5 21 [(0, .ref (xa X 73)), (1, .int v1), (2, .int v2), (3, .int v3), (4, .int v4)] [] σ (if (σ 1 10) ≤ v4 then k63 v3 σ else xB (fX9_hasBit N σ v2 v4) (fun y1 m2 => if y1 = 0 then fX6_weigh_L21 N v1 v2 k63 n v3 (v4 + 1) m2 else xB (fX9_at N m2 7 v4) (fun y4 m5 => fX6_weigh_L21 N v1 v2 k63 n (v3 + y4) (v4 + 1) m5)))
    refine j_iload (pc := 21) 4 rfl E dX6_weigh_21 ?_
    refine j_aload_n (pc := 23) rfl 0 rfl E dX6_weigh_23 ?_
    refine j_get (pc := 24) E xuX6 rfl s_73 (k := 0) (by decide) q_325 rfl (xflds_ref rfl) dX6_weigh_24 ?_
    refine j_get (pc := 27) E xuX8 rfl s_1 (k := 10) (by decide) q_123 rfl (xflds_int rfl) dX6_weigh_27 ?_
    refine j_icmp_ge (pc := 30) (tgt := 63) E dX6_weigh_30 (by decide) ?_ ?_
    · refine JF.sub [0, 1, 2, 3] rfl ?_
      exact K63 v3 σ
    · refine j_iload_n (pc := 33) rfl 2 rfl E dX6_weigh_33 ?_
      refine j_iload (pc := 34) 4 rfl E dX6_weigh_34 ?_
      refine JF.xb (fun y1 m2 h3 => ?_)
      refine j_callSiN (pc := 36) (st := []) E (kX9_hasBit h3) mv_X9_hasBit (by decide +kernel) [.int v2, .int v4] rfl rfl rfl (by decide) (Nat.le_of_ble_eq_true rfl) dX6_weigh_36 ?_
      refine j_if_eq (pc := 39) (tgt := 57) E dX6_weigh_39 (by decide) ?_ ?_
      · refine j_iinc (pc := 57) (v := (v4 + 1)) (lv1 := [(4, .int (v4 + 1)), (0, .ref (xa X 73)), (1, .int v1), (2, .int v2), (3, .int v3)]) E dX6_weigh_57 4 rfl rfl (by decide) rfl ?_
        refine j_goto (pc := 60) (tgt := 21) E dX6_weigh_60 (by decide) ?_
        refine JF.sub [1, 2, 3, 4, 0] rfl ?_
        exact ih v3 (v4 + 1) m2
      · refine j_iload_n (pc := 42) rfl 3 rfl E dX6_weigh_42 ?_
        refine j_aload_n (pc := 43) rfl 0 rfl E dX6_weigh_43 ?_
        refine j_get (pc := 44) E xuX6 rfl s_73 (k := 0) (by decide) q_325 rfl (xflds_ref rfl) dX6_weigh_44 ?_
        refine j_get (pc := 47) E xuX8 rfl s_1 (k := 5) (by decide) q_107 rfl (xflds_ref rfl) dX6_weigh_47 ?_
        refine j_iload (pc := 50) 4 rfl E dX6_weigh_50 ?_
        refine JF.xb (fun y4 m5 h6 => ?_)
        refine j_callSiN (pc := 52) (st := [.int v3]) E (kX9_at xr_7 h6) mv_X9_at (by decide +kernel) [.ref (xa X 7), .int v4] rfl rfl rfl (by decide) (Nat.le_of_ble_eq_true rfl) dX6_weigh_52 ?_
        refine j_iadd (pc := 55) E dX6_weigh_55 ?_
        refine j_istore_n (pc := 56) (lv1 := [(3, .int (v3 + y4)), (0, .ref (xa X 73)), (1, .int v1), (2, .int v2), (4, .int v4)]) E dX6_weigh_56 rfl (by decide) rfl ?_
        refine j_iinc (pc := 57) (v := (v4 + 1)) (lv1 := [(4, .int (v4 + 1)), (3, .int (v3 + y4)), (0, .ref (xa X 73)), (1, .int v1), (2, .int v2)]) E dX6_weigh_57 4 rfl rfl (by decide) rfl ?_
        refine j_goto (pc := 60) (tgt := 21) E dX6_weigh_60 (by decide) ?_
        refine JF.sub [2, 3, 4, 1, 0] rfl ?_
        exact ih (v3 + y4) (v4 + 1) m5
def fX6_weigh_L2 (N : Nat) (v1 : Int32) (k76 : XS → Option XO) : Nat → Int32 → XS → Option XO
  | 0, _, _ => none
  | n + 1, v2, σ => if v1 ≤ v2 then k76 σ else if 64 ≤ v2 then k76 σ else fX6_weigh_L21 N v1 v2 (fun x7 m8 => xLet (xUp m8 74 v2.toNatClampNeg x7) (fun m9 => gd (xin v2 64) (fX6_weigh_L2 N v1 k76 n (v2 + 1) m9))) N 0 0 σ
set_option maxRecDepth 100000 in
set_option maxHeartbeats 4000000 in
theorem lX6_weigh_L2 (N : Nat) (v1 : Int32) (k76 : XS → Option XO) {X : XC} {o : XO} (E : XE X cX6_weigh RX6 5 1 21) (R : XV X o cX6_weigh) (K76 : ∀ (σ : XS), JF X o 5 76 [] [] σ (k76 σ)) : ∀ (n : Nat) (v2 : Int32) (σ : XS), JF X o 5 2 [(0, .ref (xa X 73)), (1, .int v1), (2, .int v2)] [] σ (fX6_weigh_L2 N v1 k76 n v2 σ) := by
  intro n
  induction n with
  | zero => intro v2 σ; exact JF.none
  | succ n ih =>
    intro v2 σ
    show JF X o 5 2 [(0, .ref (xa X 73)), (1, .int v1), (2, .int v2)] [] σ (if v1 ≤ v2 then k76 σ else if 64 ≤ v2 then k76 σ else fX6_weigh_L21 N v1 v2 (fun x7 m8 => xLet (xUp m8 74 v2.toNatClampNeg x7) (fun m9 => gd (xin v2 64) (fX6_weigh_L2 N v1 k76 n (v2 + 1) m9))) N 0 0 σ)
    refine j_iload_n (pc := 2) rfl 2 rfl E dX6_weigh_2 ?_
    refine j_iload_n (pc := 3) rfl 1 rfl E dX6_weigh_3 ?_
    refine j_icmp_ge (pc := 4) (tgt := 76) E dX6_weigh_4 (by decide) ?_ ?_
    · refine JF.sub [] rfl ?_
      exact K76  σ
    · refine j_iload_n (pc := 7) rfl 2 rfl E dX6_weigh_7 ?_
      refine j_aload_n (pc := 8) rfl 0 rfl E dX6_weigh_8 ?_
      refine j_get (pc := 9) E xuX6 rfl s_73 (k := 1) (by decide) q_326 rfl (xflds_ref rfl) dX6_weigh_9 ?_
      refine j_alen (pc := 12) (v := 64) E s_74 rfl rfl dX6_weigh_12 ?_
      refine j_icmp_ge (pc := 13) (tgt := 76) E dX6_weigh_13 (by decide) ?_ ?_
      · refine JF.sub [] rfl ?_
        exact K76  σ
      · refine j_iconst (pc := 16) (v := 0) (by decide) E dX6_weigh_16 ?_
        refine j_istore_n (pc := 17) (lv1 := [(3, .int 0), (0, .ref (xa X 73)), (1, .int v1), (2, .int v2)]) E dX6_weigh_17 rfl (by decide) rfl ?_
        refine j_iconst (pc := 18) (v := 0) (by decide) E dX6_weigh_18 ?_
        refine j_istore (pc := 19) (lv1 := [(4, .int 0), (3, .int 0), (0, .ref (xa X 73)), (1, .int v1), (2, .int v2)]) E dX6_weigh_19 (by decide) rfl ?_
        refine JF.sub [2, 3, 4, 1, 0] rfl ?_
        refine lX6_weigh_L21 N v1 v2 _ E R (fun x7 m8 => ?_) N 0 0 σ
        · refine j_aload_n (pc := 63) rfl 0 rfl E dX6_weigh_63 ?_
          refine j_get (pc := 64) E xuX6 rfl s_73 (k := 1) (by decide) q_326 rfl (xflds_ref rfl) dX6_weigh_64 ?_
          refine j_iload_n (pc := 67) rfl 2 rfl E dX6_weigh_67 ?_
          refine j_iload_n (pc := 68) rfl 3 rfl E dX6_weigh_68 ?_
          refine JF.xlet (fun m9 e10 => ?_)
          refine j_iast (pc := 69) E s_74 dX6_weigh_69 e10 ?_
          refine j_iinc (pc := 70) (v := (v2 + 1)) (lv1 := [(2, .int (v2 + 1)), (0, .ref (xa X 73)), (1, .int v1), (3, .int x7)]) E dX6_weigh_70 2 rfl rfl (by decide) rfl ?_
          refine j_goto (pc := 73) (tgt := 2) E dX6_weigh_73 (by decide) ?_
          refine JF.sub [1, 2, 0] rfl ?_
          exact ih (v2 + 1) m9
def fX6_weigh (N : Nat) (σ : XS) (p1 : Int32) : Option XO := fX6_weigh_L2 N p1 (fun m12 => some (0, m12)) N 0 σ
set_option maxRecDepth 100000 in
set_option maxHeartbeats 4000000 in
theorem kX6_weigh {N : Nat} {σ : XS} {p1 : Int32} {o : XO} (h : fX6_weigh N σ p1 = some o) : CtV yX6_weigh cX6_weigh 5 none 1 21 (fun Am ad => [.ref (Am 73), .int p1]) σ o := by
  refine ct_void (by decide) (fun _ _ => Nat.le_of_ble_eq_true rfl) (fun X E R => ?_)
  rw [← h]
  show JF X o 5 0 [(0, .ref (xa X 73)), (1, .int p1)] [] σ (fX6_weigh_L2 N p1 (fun m12 => some (0, m12)) N 0 σ)
  refine j_iconst (pc := 0) (v := 0) (by decide) E dX6_weigh_0 ?_
  refine j_istore_n (pc := 1) (lv1 := [(2, .int 0), (0, .ref (xa X 73)), (1, .int p1)]) E dX6_weigh_1 rfl (by decide) rfl ?_
  refine JF.sub [1, 2, 0] rfl ?_
  refine lX6_weigh_L2 N p1 _ E R (fun m12 => ?_) N 0 σ
  · exact j_vret (pc := 76) E R dX6_weigh_76
def fX6_load_L50 (N : Nat) (v1 : Int32) (v2 : Int32) (v3 : Int32) (k128 : XS → Option XO) : Nat → Int32 → XS → Option XO
  | 0, _, _ => none
  | n + 1, v4, σ => if v2 ≤ v4 then k128 σ else xB (fX9_at N σ 74 v3) (fun y10 m11 => xB (fX9_at N m11 74 v4) (fun y13 m14 => if (v3 &&& v4) = 0 then xB (fX9_at N m14 74 v4) (fun y16 m17 => if v1 < y16 then fX6_load_L50 N v1 v2 v3 k128 n (v4 + 1) m17 else if (y10 + y13) ≤ (m17 73 2) then fX6_load_L50 N v1 v2 v3 k128 n (v4 + 1) m17 else xLet (xUp m17 73 2 (y10 + y13)) (fun m19 => xLet (xUp m19 73 3 v3) (fun m21 => xLet (xUp m21 73 4 v4) (fun m23 => fX6_load_L50 N v1 v2 v3 k128 n (v4 + 1) m23)))) else fX6_load_L50 N v1 v2 v3 k128 n (v4 + 1) m14))
set_option maxRecDepth 100000 in
set_option maxHeartbeats 4000000 in
theorem lX6_load_L50 (N : Nat) (v1 : Int32) (v2 : Int32) (v3 : Int32) (k128 : XS → Option XO) {X : XC} {o : XO} (E : XE X cX6_load RX6 6 2 45) (R : XV X o cX6_load) (K128 : ∀ (σ : XS), JF X o 6 128 [(0, .ref (xa X 73)), (1, .int v1), (2, .int v2), (3, .int v3)] [] σ (k128 σ)) : ∀ (n : Nat) (v4 : Int32) (σ : XS), JF X o 6 50 [(0, .ref (xa X 73)), (1, .int v1), (2, .int v2), (3, .int v3), (4, .int v4)] [] σ (fX6_load_L50 N v1 v2 v3 k128 n v4 σ) := by
  intro n
  induction n with
  | zero => intro v4 σ; exact JF.none
  | succ n ih =>
    intro v4 σ
    show JF X o 6 50 [(0, .ref (xa X 73)), (1, .int v1), (2, .int v2), (3, .int v3), (4, .int v4)] [] σ (if v2 ≤ v4 then k128 σ else xB (fX9_at N σ 74 v3) (fun y10 m11 => xB (fX9_at N m11 74 v4) (fun y13 m14 => if (v3 &&& v4) = 0 then xB (fX9_at N m14 74 v4) (fun y16 m17 => if v1 < y16 then fX6_load_L50 N v1 v2 v3 k128 n (v4 + 1) m17 else if (y10 + y13) ≤ (m17 73 2) then fX6_load_L50 N v1 v2 v3 k128 n (v4 + 1) m17 else xLet (xUp m17 73 2 (y10 + y13)) (fun m19 => xLet (xUp m19 73 3 v3) (fun m21 => xLet (xUp m21 73 4 v4) (fun m23 => fX6_load_L50 N v1 v2 v3 k128 n (v4 + 1) m23)))) else fX6_load_L50 N v1 v2 v3 k128 n (v4 + 1) m14)))
    refine j_iload (pc := 50) 4 rfl E dX6_load_50 ?_
    refine j_iload_n (pc := 52) rfl 2 rfl E dX6_load_52 ?_
    refine j_icmp_ge (pc := 53) (tgt := 128) E dX6_load_53 (by decide) ?_ ?_
    · refine JF.sub [0, 1, 2, 3] rfl ?_
      exact K128  σ
    · refine j_aload_n (pc := 56) rfl 0 rfl E dX6_load_56 ?_
      refine j_get (pc := 57) E xuX6 rfl s_73 (k := 1) (by decide) q_326 rfl (xflds_ref rfl) dX6_load_57 ?_
      refine j_iload_n (pc := 60) rfl 3 rfl E dX6_load_60 ?_
      refine JF.xb (fun y10 m11 h12 => ?_)
      refine j_callSiN (pc := 61) (st := []) E (kX9_at xr_74 h12) mv_X9_at (by decide +kernel) [.ref (xa X 74), .int v3] rfl rfl rfl (by decide) (Nat.le_of_ble_eq_true rfl) dX6_load_61 ?_
      refine j_aload_n (pc := 64) rfl 0 rfl E dX6_load_64 ?_
      refine j_get (pc := 65) E xuX6 rfl s_73 (k := 1) (by decide) q_326 rfl (xflds_ref rfl) dX6_load_65 ?_
      refine j_iload (pc := 68) 4 rfl E dX6_load_68 ?_
      refine JF.xb (fun y13 m14 h15 => ?_)
      refine j_callSiN (pc := 70) (st := [.int y10]) E (kX9_at xr_74 h15) mv_X9_at (by decide +kernel) [.ref (xa X 74), .int v4] rfl rfl rfl (by decide) (Nat.le_of_ble_eq_true rfl) dX6_load_70 ?_
      refine j_iadd (pc := 73) E dX6_load_73 ?_
      refine j_istore (pc := 74) (lv1 := [(5, .int (y10 + y13)), (0, .ref (xa X 73)), (1, .int v1), (2, .int v2), (3, .int v3), (4, .int v4)]) E dX6_load_74 (by decide) rfl ?_
      refine j_iload_n (pc := 76) rfl 4 rfl E dX6_load_76 ?_
      refine j_iload (pc := 77) 5 rfl E dX6_load_77 ?_
      refine j_iand (pc := 79) E dX6_load_79 ?_
      refine j_if_ne (pc := 80) (tgt := 122) E dX6_load_80 (by decide) ?_ ?_
      · refine j_aload_n (pc := 83) rfl 1 rfl E dX6_load_83 ?_
        refine j_get (pc := 84) E xuX6 rfl s_73 (k := 1) (by decide) q_326 rfl (xflds_ref rfl) dX6_load_84 ?_
        refine j_iload (pc := 87) 5 rfl E dX6_load_87 ?_
        refine JF.xb (fun y16 m17 h18 => ?_)
        refine j_callSiN (pc := 89) (st := []) E (kX9_at xr_74 h18) mv_X9_at (by decide +kernel) [.ref (xa X 74), .int v4] rfl rfl rfl (by decide) (Nat.le_of_ble_eq_true rfl) dX6_load_89 ?_
        refine j_iload_n (pc := 92) rfl 2 rfl E dX6_load_92 ?_
        refine j_icmp_gt (pc := 93) (tgt := 122) E dX6_load_93 (by decide) ?_ ?_
        · refine j_iinc (pc := 122) (v := (v4 + 1)) (lv1 := [(4, .int (v4 + 1)), (5, .int (y10 + y13)), (0, .ref (xa X 73)), (1, .int v1), (2, .int v2), (3, .int v3)]) E dX6_load_122 5 rfl rfl (by decide) rfl ?_
          refine j_goto (pc := 125) (tgt := 50) E dX6_load_125 (by decide) ?_
          refine JF.sub [2, 3, 4, 5, 0] rfl ?_
          exact ih (v4 + 1) m17
        · refine j_iload (pc := 96) 0 rfl E dX6_load_96 ?_
          refine j_aload_n (pc := 98) rfl 1 rfl E dX6_load_98 ?_
          refine j_get (pc := 99) E xuX6 rfl s_73 (k := 2) (by decide) q_327 rfl (xflds_int rfl) dX6_load_99 ?_
          refine j_icmp_le (pc := 102) (tgt := 122) E dX6_load_102 (by decide) ?_ ?_
          · refine j_iinc (pc := 122) (v := (v4 + 1)) (lv1 := [(4, .int (v4 + 1)), (5, .int (y10 + y13)), (0, .ref (xa X 73)), (1, .int v1), (2, .int v2), (3, .int v3)]) E dX6_load_122 5 rfl rfl (by decide) rfl ?_
            refine j_goto (pc := 125) (tgt := 50) E dX6_load_125 (by decide) ?_
            refine JF.sub [2, 3, 4, 5, 0] rfl ?_
            exact ih (v4 + 1) m17
          · refine j_aload_n (pc := 105) rfl 1 rfl E dX6_load_105 ?_
            refine j_iload (pc := 106) 0 rfl E dX6_load_106 ?_
            refine JF.xlet (fun m19 e20 => ?_)
            refine j_put (pc := 108) E xuX6 tyX6 tyX6_ok nmX6 rfl s_73 rfl (k := 2) (by decide) q_327 rfl rfl (ty := .int) (by decide +kernel) rfl rfl dX6_load_108 e20 ?_
            refine j_aload_n (pc := 111) rfl 1 rfl E dX6_load_111 ?_
            refine j_iload_n (pc := 112) rfl 4 rfl E dX6_load_112 ?_
            refine JF.xlet (fun m21 e22 => ?_)
            refine j_put (pc := 113) E xuX6 tyX6 tyX6_ok nmX6 rfl s_73 rfl (k := 3) (by decide) q_329 rfl rfl (ty := .int) (by decide +kernel) rfl rfl dX6_load_113 e22 ?_
            refine j_aload_n (pc := 116) rfl 1 rfl E dX6_load_116 ?_
            refine j_iload (pc := 117) 5 rfl E dX6_load_117 ?_
            refine JF.xlet (fun m23 e24 => ?_)
            refine j_put (pc := 119) E xuX6 tyX6 tyX6_ok nmX6 rfl s_73 rfl (k := 4) (by decide) q_331 rfl rfl (ty := .int) (by decide +kernel) rfl rfl dX6_load_119 e24 ?_
            refine j_iinc (pc := 122) (v := (v4 + 1)) (lv1 := [(4, .int (v4 + 1)), (5, .int (y10 + y13)), (0, .ref (xa X 73)), (1, .int v1), (2, .int v2), (3, .int v3)]) E dX6_load_122 5 rfl rfl (by decide) rfl ?_
            refine j_goto (pc := 125) (tgt := 50) E dX6_load_125 (by decide) ?_
            refine JF.sub [2, 3, 4, 5, 0] rfl ?_
            exact ih (v4 + 1) m23
      · refine j_iinc (pc := 122) (v := (v4 + 1)) (lv1 := [(4, .int (v4 + 1)), (5, .int (y10 + y13)), (0, .ref (xa X 73)), (1, .int v1), (2, .int v2), (3, .int v3)]) E dX6_load_122 5 rfl rfl (by decide) rfl ?_
        refine j_goto (pc := 125) (tgt := 50) E dX6_load_125 (by decide) ?_
        refine JF.sub [2, 3, 4, 5, 0] rfl ?_
        exact ih (v4 + 1) m14
def fX6_load_L27 (N : Nat) (v1 : Int32) (v2 : Int32) (k134 : XS → Option XO) : Nat → Int32 → XS → Option XO
  | 0, _, _ => none
  | n + 1, v3, σ => if v2 ≤ v3 then k134 σ else xB (fX9_at N σ 74 v3) (fun y7 m8 => if y7 ≤ v1 then fX6_load_L50 N v1 v2 v3 (fun m25 => fX6_load_L27 N v1 v2 k134 n (v3 + 1) m25) N 0 m8 else fX6_load_L27 N v1 v2 k134 n (v3 + 1) m8)
set_option maxRecDepth 100000 in
set_option maxHeartbeats 4000000 in
theorem lX6_load_L27 (N : Nat) (v1 : Int32) (v2 : Int32) (k134 : XS → Option XO) {X : XC} {o : XO} (E : XE X cX6_load RX6 6 2 45) (R : XV X o cX6_load) (K134 : ∀ (σ : XS), JF X o 6 134 [] [] σ (k134 σ)) : ∀ (n : Nat) (v3 : Int32) (σ : XS), JF X o 6 27 [(0, .ref (xa X 73)), (1, .int v1), (2, .int v2), (3, .int v3)] [] σ (fX6_load_L27 N v1 v2 k134 n v3 σ) := by
  intro n
  induction n with
  | zero => intro v3 σ; exact JF.none
  | succ n ih =>
    intro v3 σ
    show JF X o 6 27 [(0, .ref (xa X 73)), (1, .int v1), (2, .int v2), (3, .int v3)] [] σ (if v2 ≤ v3 then k134 σ else xB (fX9_at N σ 74 v3) (fun y7 m8 => if y7 ≤ v1 then fX6_load_L50 N v1 v2 v3 (fun m25 => fX6_load_L27 N v1 v2 k134 n (v3 + 1) m25) N 0 m8 else fX6_load_L27 N v1 v2 k134 n (v3 + 1) m8))
    refine j_iload_n (pc := 27) rfl 3 rfl E dX6_load_27 ?_
    refine j_iload_n (pc := 28) rfl 2 rfl E dX6_load_28 ?_
    refine j_icmp_ge (pc := 29) (tgt := 134) E dX6_load_29 (by decide) ?_ ?_
    · refine JF.sub [] rfl ?_
      exact K134  σ
    · refine j_aload_n (pc := 32) rfl 0 rfl E dX6_load_32 ?_
      refine j_get (pc := 33) E xuX6 rfl s_73 (k := 1) (by decide) q_326 rfl (xflds_ref rfl) dX6_load_33 ?_
      refine j_iload_n (pc := 36) rfl 3 rfl E dX6_load_36 ?_
      refine JF.xb (fun y7 m8 h9 => ?_)
      refine j_callSiN (pc := 37) (st := []) E (kX9_at xr_74 h9) mv_X9_at (by decide +kernel) [.ref (xa X 74), .int v3] rfl rfl rfl (by decide) (Nat.le_of_ble_eq_true rfl) dX6_load_37 ?_
      refine j_iload_n (pc := 40) rfl 1 rfl E dX6_load_40 ?_
      refine j_icmp_le (pc := 41) (tgt := 47) E dX6_load_41 (by decide) ?_ ?_
      · refine j_iconst (pc := 47) (v := 0) (by decide) E dX6_load_47 ?_
        refine j_istore (pc := 48) (lv1 := [(4, .int 0), (0, .ref (xa X 73)), (1, .int v1), (2, .int v2), (3, .int v3)]) E dX6_load_48 (by decide) rfl ?_
        refine JF.sub [1, 2, 3, 4, 0] rfl ?_
        refine lX6_load_L50 N v1 v2 v3 _ E R (fun m25 => ?_) N 0 m8
        · refine j_iinc (pc := 128) (v := (v3 + 1)) (lv1 := [(3, .int (v3 + 1)), (0, .ref (xa X 73)), (1, .int v1), (2, .int v2)]) E dX6_load_128 3 rfl rfl (by decide) rfl ?_
          refine j_goto (pc := 131) (tgt := 27) E dX6_load_131 (by decide) ?_
          refine JF.sub [1, 2, 3, 0] rfl ?_
          exact ih (v3 + 1) m25
      · refine j_goto (pc := 44) (tgt := 128) E dX6_load_44 (by decide) ?_
        refine j_iinc (pc := 128) (v := (v3 + 1)) (lv1 := [(3, .int (v3 + 1)), (0, .ref (xa X 73)), (1, .int v1), (2, .int v2)]) E dX6_load_128 3 rfl rfl (by decide) rfl ?_
        refine j_goto (pc := 131) (tgt := 27) E dX6_load_131 (by decide) ?_
        refine JF.sub [1, 2, 3, 0] rfl ?_
        exact ih (v3 + 1) m8
def fX6_load (N : Nat) (σ : XS) (p1 : Int32) : Option XO := xLetI (1 <<< ((if 6 < (σ 1 10) then 6 else (σ 1 10)) &&& 31)) (fun x1 => xB (fX6_weigh N σ x1) (fun _ m3 => xLet (xUp m3 73 2 (-1)) (fun m5 => fX6_load_L27 N p1 x1 (fun m26 => some (0, m26)) N 0 m5)))
set_option maxRecDepth 100000 in
set_option maxHeartbeats 4000000 in
theorem kX6_load {N : Nat} {σ : XS} {p1 : Int32} {o : XO} (h : fX6_load N σ p1 = some o) : CtV yX6_load cX6_load 6 none 2 45 (fun Am ad => [.ref (Am 73), .int p1]) σ o := by
  refine ct_void (by decide) (fun _ _ => Nat.le_of_ble_eq_true rfl) (fun X E R => ?_)
  rw [← h]
  show JF X o 6 0 [(0, .ref (xa X 73)), (1, .int p1)] [] σ (xLetI (1 <<< ((if 6 < (σ 1 10) then 6 else (σ 1 10)) &&& 31)) (fun x1 => xB (fX6_weigh N σ x1) (fun _ m3 => xLet (xUp m3 73 2 (-1)) (fun m5 => fX6_load_L27 N p1 x1 (fun m26 => some (0, m26)) N 0 m5))))
  refine j_iconst (pc := 0) (v := 1) (by decide) E dX6_load_0 ?_
  refine j_aload_n (pc := 1) rfl 0 rfl E dX6_load_1 ?_
  refine j_get (pc := 2) E xuX6 rfl s_73 (k := 0) (by decide) q_325 rfl (xflds_ref rfl) dX6_load_2 ?_
  refine j_get (pc := 5) E xuX8 rfl s_1 (k := 10) (by decide) q_123 rfl (xflds_int rfl) dX6_load_5 ?_
  refine j_bipush (pc := 8) (v := 6) (by decide) E dX6_load_8 ?_
  refine j_min (pc := 10) E q_955 q_766 q_74 q_767 (by decide) (Nat.le_of_ble_eq_true rfl) dX6_load_10 ?_
  refine j_ishl (pc := 13) E dX6_load_13 ?_
  refine JF.xletI (fun x1 => ?_)
  refine j_istore_n (pc := 14) (lv1 := [(2, .int x1), (0, .ref (xa X 73)), (1, .int p1)]) E dX6_load_14 rfl (by decide) rfl ?_
  refine j_aload_n (pc := 15) rfl 1 rfl E dX6_load_15 ?_
  refine j_iload_n (pc := 16) rfl 0 rfl E dX6_load_16 ?_
  refine JF.xb (fun y2 m3 h4 => ?_)
  refine j_callVv (pc := 17) (st := []) E (kX6_weigh h4) mv_X6_weigh rfl s_73 q_956 [.int x1] rfl rfl rfl (by decide) (Nat.le_of_ble_eq_true rfl) dX6_load_17 ?_
  refine j_aload_n (pc := 20) rfl 1 rfl E dX6_load_20 ?_
  refine j_iconst (pc := 21) (v := (-1)) (by decide) E dX6_load_21 ?_
  refine JF.xlet (fun m5 e6 => ?_)
  refine j_put (pc := 22) E xuX6 tyX6 tyX6_ok nmX6 rfl s_73 rfl (k := 2) (by decide) q_327 rfl rfl (ty := .int) (by decide +kernel) rfl rfl dX6_load_22 e6 ?_
  refine j_iconst (pc := 25) (v := 0) (by decide) E dX6_load_25 ?_
  refine j_istore_n (pc := 26) (lv1 := [(3, .int 0), (2, .int x1), (0, .ref (xa X 73)), (1, .int p1)]) E dX6_load_26 rfl (by decide) rfl ?_
  refine JF.sub [2, 3, 1, 0] rfl ?_
  refine lX6_load_L27 N p1 x1 _ E R (fun m26 => ?_) N 0 m5
  · exact j_vret (pc := 134) E R dX6_load_134
def fX7_add (N : Nat) (σ : XS) (p1 : Int32) : Option XO := if 160 ≤ (σ 11 3) then some ((σ 11 3), σ) else xLet (xUp σ 12 (σ 11 3).toNatClampNeg (vp_nar .char ((p1.toUInt32 % 65536).toInt32))) (fun m1 => gd (xin (σ 11 3) 160) (xLet (xUp m1 11 3 ((m1 11 3) + 1)) (fun m4 => some ((m4 11 3), m4))))
set_option maxRecDepth 100000 in
set_option maxHeartbeats 4000000 in
theorem kX7_add {N : Nat} {σ : XS} {p1 : Int32} {o : XO} (h : fX7_add N σ p1 = some o) : CtI yX7_add cX7_add 2 (some .int) 0 0 (fun Am ad => [.ref (Am 11), .int p1]) σ o := by
  refine ct_int (by decide) (fun _ _ => Nat.le_of_ble_eq_true rfl) (fun X E R => ?_)
  rw [← h]
  show JF X o 2 0 [(0, .ref (xa X 11)), (1, .int p1)] [] σ (if 160 ≤ (σ 11 3) then some ((σ 11 3), σ) else xLet (xUp σ 12 (σ 11 3).toNatClampNeg (vp_nar .char ((p1.toUInt32 % 65536).toInt32))) (fun m1 => gd (xin (σ 11 3) 160) (xLet (xUp m1 11 3 ((m1 11 3) + 1)) (fun m4 => some ((m4 11 3), m4)))))
  refine j_aload_n (pc := 0) rfl 0 rfl E dX7_add_0 ?_
  refine j_get (pc := 1) E xuX7 rfl s_11 (k := 3) (by decide) q_174 rfl (xflds_int rfl) dX7_add_1 ?_
  refine j_sipush (pc := 4) (v := 160) (by decide) E dX7_add_4 ?_
  refine j_icmp_ge (pc := 7) (tgt := 31) E dX7_add_7 (by decide) ?_ ?_
  · refine j_aload_n (pc := 31) rfl 0 rfl E dX7_add_31 ?_
    refine j_get (pc := 32) E xuX7 rfl s_11 (k := 3) (by decide) q_174 rfl (xflds_int rfl) dX7_add_32 ?_
    exact j_iret (pc := 35) E R dX7_add_35
  · refine j_aload_n (pc := 10) rfl 0 rfl E dX7_add_10 ?_
    refine j_get (pc := 11) E xuX7 rfl s_11 (k := 0) (by decide) q_171 rfl (xflds_ref rfl) dX7_add_11 ?_
    refine j_aload_n (pc := 14) rfl 0 rfl E dX7_add_14 ?_
    refine j_get (pc := 15) E xuX7 rfl s_11 (k := 3) (by decide) q_174 rfl (xflds_int rfl) dX7_add_15 ?_
    refine j_iload_n (pc := 18) rfl 1 rfl E dX7_add_18 ?_
    refine j_i2c (pc := 19) E dX7_add_19 ?_
    refine JF.xlet (fun m1 e2 => ?_)
    refine j_cast (pc := 20) E s_12 dX7_add_20 e2 ?_
    refine j_aload_n (pc := 21) rfl 0 rfl E dX7_add_21 ?_
    refine j_dup (pc := 22) rfl E dX7_add_22 ?_
    refine j_get (pc := 23) E xuX7 rfl s_11 (k := 3) (by decide) q_174 rfl (xflds_int rfl) dX7_add_23 ?_
    refine j_iconst (pc := 26) (v := 1) (by decide) E dX7_add_26 ?_
    refine j_iadd (pc := 27) E dX7_add_27 ?_
    refine JF.xlet (fun m4 e5 => ?_)
    refine j_put (pc := 28) E xuX7 tyX7 tyX7_ok nmX7 rfl s_11 rfl (k := 3) (by decide) q_174 rfl rfl (ty := .int) (by decide +kernel) rfl rfl dX7_add_28 e5 ?_
    refine j_aload_n (pc := 31) rfl 0 rfl E dX7_add_31 ?_
    refine j_get (pc := 32) E xuX7 rfl s_11 (k := 3) (by decide) q_174 rfl (xflds_int rfl) dX7_add_32 ?_
    exact j_iret (pc := 35) E R dX7_add_35
def fX7_clear (N : Nat) (σ : XS) : Option XO := xLet (xUp σ 11 3 0) (fun m1 => some ((σ 11 3), m1))
set_option maxRecDepth 100000 in
set_option maxHeartbeats 4000000 in
theorem kX7_clear {N : Nat} {σ : XS} {o : XO} (h : fX7_clear N σ = some o) : CtI yX7_clear cX7_clear 2 (some .int) 0 0 (fun Am ad => [.ref (Am 11)]) σ o := by
  refine ct_int (by decide) (fun _ _ => Nat.le_of_ble_eq_true rfl) (fun X E R => ?_)
  rw [← h]
  show JF X o 2 0 [(0, .ref (xa X 11))] [] σ (xLet (xUp σ 11 3 0) (fun m1 => some ((σ 11 3), m1)))
  refine j_aload_n (pc := 0) rfl 0 rfl E dX7_clear_0 ?_
  refine j_get (pc := 1) E xuX7 rfl s_11 (k := 3) (by decide) q_174 rfl (xflds_int rfl) dX7_clear_1 ?_
  refine j_istore_n (pc := 4) (lv1 := [(1, .int (σ 11 3)), (0, .ref (xa X 11))]) E dX7_clear_4 rfl (by decide) rfl ?_
  refine j_aload_n (pc := 5) rfl 1 rfl E dX7_clear_5 ?_
  refine j_iconst (pc := 6) (v := 0) (by decide) E dX7_clear_6 ?_
  refine JF.xlet (fun m1 e2 => ?_)
  refine j_put (pc := 7) E xuX7 tyX7 tyX7_ok nmX7 rfl s_11 rfl (k := 3) (by decide) q_174 rfl rfl (ty := .int) (by decide +kernel) rfl rfl dX7_clear_7 e2 ?_
  refine j_iload_n (pc := 10) rfl 0 rfl E dX7_clear_10 ?_
  exact j_iret (pc := 11) E R dX7_clear_11
def fX7_letterAt (N : Nat) (σ : XS) (p1 : Int32) : Option XO := if p1 < 0 then some ((-1), σ) else if (σ 11 3) ≤ p1 then some ((-1), σ) else if 160 ≤ p1 then some ((-1), σ) else gd (xin p1 160) (some ((σ 12 p1.toNatClampNeg), σ))
set_option maxRecDepth 100000 in
set_option maxHeartbeats 4000000 in
theorem kX7_letterAt {N : Nat} {σ : XS} {p1 : Int32} {o : XO} (h : fX7_letterAt N σ p1 = some o) : CtI yX7_letterAt cX7_letterAt 2 (some .int) 0 0 (fun Am ad => [.ref (Am 11), .int p1]) σ o := by
  refine ct_int (by decide) (fun _ _ => Nat.le_of_ble_eq_true rfl) (fun X E R => ?_)
  rw [← h]
  show JF X o 2 0 [(0, .ref (xa X 11)), (1, .int p1)] [] σ (if p1 < 0 then some ((-1), σ) else if (σ 11 3) ≤ p1 then some ((-1), σ) else if 160 ≤ p1 then some ((-1), σ) else gd (xin p1 160) (some ((σ 12 p1.toNatClampNeg), σ)))
  refine j_iload_n (pc := 0) rfl 1 rfl E dX7_letterAt_0 ?_
  refine j_if_lt (pc := 1) (tgt := 28) E dX7_letterAt_1 (by decide) ?_ ?_
  · refine j_iconst (pc := 28) (v := (-1)) (by decide) E dX7_letterAt_28 ?_
    exact j_iret (pc := 29) E R dX7_letterAt_29
  · refine j_iload_n (pc := 4) rfl 1 rfl E dX7_letterAt_4 ?_
    refine j_aload_n (pc := 5) rfl 0 rfl E dX7_letterAt_5 ?_
    refine j_get (pc := 6) E xuX7 rfl s_11 (k := 3) (by decide) q_174 rfl (xflds_int rfl) dX7_letterAt_6 ?_
    refine j_icmp_ge (pc := 9) (tgt := 28) E dX7_letterAt_9 (by decide) ?_ ?_
    · refine j_iconst (pc := 28) (v := (-1)) (by decide) E dX7_letterAt_28 ?_
      exact j_iret (pc := 29) E R dX7_letterAt_29
    · refine j_iload_n (pc := 12) rfl 1 rfl E dX7_letterAt_12 ?_
      refine j_sipush (pc := 13) (v := 160) (by decide) E dX7_letterAt_13 ?_
      refine j_icmp_ge (pc := 16) (tgt := 28) E dX7_letterAt_16 (by decide) ?_ ?_
      · refine j_iconst (pc := 28) (v := (-1)) (by decide) E dX7_letterAt_28 ?_
        exact j_iret (pc := 29) E R dX7_letterAt_29
      · refine j_aload_n (pc := 19) rfl 0 rfl E dX7_letterAt_19 ?_
        refine j_get (pc := 20) E xuX7 rfl s_11 (k := 0) (by decide) q_171 rfl (xflds_ref rfl) dX7_letterAt_20 ?_
        refine j_iload_n (pc := 23) rfl 1 rfl E dX7_letterAt_23 ?_
        refine j_cald (pc := 24) E s_12 dX7_letterAt_24 ?_
        refine j_goto (pc := 25) (tgt := 29) E dX7_letterAt_25 (by decide) ?_
        exact j_iret (pc := 29) E R dX7_letterAt_29
def fX7_sortAt (N : Nat) (σ : XS) (p1 : Int32) : Option XO := xB (fX7_letterAt N σ p1) (fun y1 m2 => if y1 < 97 then if y1 < 48 then some (2, m2) else if 57 < y1 then some (2, m2) else some (1, m2) else if 122 < y1 then if y1 < 48 then some (2, m2) else if 57 < y1 then some (2, m2) else some (1, m2) else some (0, m2))
set_option maxRecDepth 100000 in
set_option maxHeartbeats 4000000 in
theorem kX7_sortAt {N : Nat} {σ : XS} {p1 : Int32} {o : XO} (h : fX7_sortAt N σ p1 = some o) : CtI yX7_sortAt cX7_sortAt 3 (some .int) 1 21 (fun Am ad => [.ref (Am 11), .int p1]) σ o := by
  refine ct_int (by decide) (fun _ _ => Nat.le_of_ble_eq_true rfl) (fun X E R => ?_)
  rw [← h]
  show JF X o 3 0 [(0, .ref (xa X 11)), (1, .int p1)] [] σ (xB (fX7_letterAt N σ p1) (fun y1 m2 => if y1 < 97 then if y1 < 48 then some (2, m2) else if 57 < y1 then some (2, m2) else some (1, m2) else if 122 < y1 then if y1 < 48 then some (2, m2) else if 57 < y1 then some (2, m2) else some (1, m2) else some (0, m2)))
  refine j_aload_n (pc := 0) rfl 0 rfl E dX7_sortAt_0 ?_
  refine j_iload_n (pc := 1) rfl 1 rfl E dX7_sortAt_1 ?_
  refine JF.xb (fun y1 m2 h3 => ?_)
  refine j_callVi (pc := 2) (st := []) E (kX7_letterAt h3) mv_X7_letterAt rfl s_11 q_448 [.int p1] rfl rfl rfl (by decide) (Nat.le_of_ble_eq_true rfl) dX7_sortAt_2 ?_
  refine j_istore_n (pc := 5) (lv1 := [(2, .int y1), (0, .ref (xa X 11)), (1, .int p1)]) E dX7_sortAt_5 rfl (by decide) rfl ?_
  refine j_iload_n (pc := 6) rfl 0 rfl E dX7_sortAt_6 ?_
  refine j_bipush (pc := 7) (v := 97) (by decide) E dX7_sortAt_7 ?_
  refine j_icmp_lt (pc := 9) (tgt := 20) E dX7_sortAt_9 (by decide) ?_ ?_
  · refine j_iload_n (pc := 20) rfl 0 rfl E dX7_sortAt_20 ?_
    refine j_bipush (pc := 21) (v := 48) (by decide) E dX7_sortAt_21 ?_
    refine j_icmp_lt (pc := 23) (tgt := 36) E dX7_sortAt_23 (by decide) ?_ ?_
    · refine j_iconst (pc := 36) (v := 2) (by decide) E dX7_sortAt_36 ?_
      exact j_iret (pc := 37) E R dX7_sortAt_37
    · refine j_iload_n (pc := 26) rfl 0 rfl E dX7_sortAt_26 ?_
      refine j_bipush (pc := 27) (v := 57) (by decide) E dX7_sortAt_27 ?_
      refine j_icmp_gt (pc := 29) (tgt := 36) E dX7_sortAt_29 (by decide) ?_ ?_
      · refine j_iconst (pc := 36) (v := 2) (by decide) E dX7_sortAt_36 ?_
        exact j_iret (pc := 37) E R dX7_sortAt_37
      · refine j_iconst (pc := 32) (v := 1) (by decide) E dX7_sortAt_32 ?_
        refine j_goto (pc := 33) (tgt := 37) E dX7_sortAt_33 (by decide) ?_
        exact j_iret (pc := 37) E R dX7_sortAt_37
  · refine j_iload_n (pc := 12) rfl 0 rfl E dX7_sortAt_12 ?_
    refine j_bipush (pc := 13) (v := 122) (by decide) E dX7_sortAt_13 ?_
    refine j_icmp_gt (pc := 15) (tgt := 20) E dX7_sortAt_15 (by decide) ?_ ?_
    · refine j_iload_n (pc := 20) rfl 0 rfl E dX7_sortAt_20 ?_
      refine j_bipush (pc := 21) (v := 48) (by decide) E dX7_sortAt_21 ?_
      refine j_icmp_lt (pc := 23) (tgt := 36) E dX7_sortAt_23 (by decide) ?_ ?_
      · refine j_iconst (pc := 36) (v := 2) (by decide) E dX7_sortAt_36 ?_
        exact j_iret (pc := 37) E R dX7_sortAt_37
      · refine j_iload_n (pc := 26) rfl 0 rfl E dX7_sortAt_26 ?_
        refine j_bipush (pc := 27) (v := 57) (by decide) E dX7_sortAt_27 ?_
        refine j_icmp_gt (pc := 29) (tgt := 36) E dX7_sortAt_29 (by decide) ?_ ?_
        · refine j_iconst (pc := 36) (v := 2) (by decide) E dX7_sortAt_36 ?_
          exact j_iret (pc := 37) E R dX7_sortAt_37
        · refine j_iconst (pc := 32) (v := 1) (by decide) E dX7_sortAt_32 ?_
          refine j_goto (pc := 33) (tgt := 37) E dX7_sortAt_33 (by decide) ?_
          exact j_iret (pc := 37) E R dX7_sortAt_37
    · refine j_iconst (pc := 18) (v := 0) (by decide) E dX7_sortAt_18 ?_
      exact j_iret (pc := 19) E R dX7_sortAt_19
def fX7_goOn_L8 (N : Nat) (k45 : XS → Option XO) : Nat → XS → Option XO
  | 0, _ => none
  | n + 1, σ => if (σ 11 3) ≤ (σ 11 5) then k45 σ else xB (fX7_letterAt N σ (σ 11 5)) (fun y3 m4 => if y3 = 32 then xLet (xUp m4 11 5 ((m4 11 5) + 1)) (fun m6 => fX7_goOn_L8 N k45 n m6) else k45 m4)
set_option maxRecDepth 100000 in
set_option maxHeartbeats 4000000 in
theorem lX7_goOn_L8 (N : Nat) (k45 : XS → Option XO) {X : XC} {o : XO} (E : XE X cX7_goOn RX7 2 2 43) (R : XV X o cX7_goOn) (K45 : ∀ (σ : XS), JF X o 2 45 [(0, .ref (xa X 11))] [] σ (k45 σ)) : ∀ (n : Nat) (σ : XS), JF X o 2 8 [(0, .ref (xa X 11))] [] σ (fX7_goOn_L8 N k45 n σ) := by
  intro n
  induction n with
  | zero => intro σ; exact JF.none
  | succ n ih =>
    intro σ
    show JF X o 2 8 [(0, .ref (xa X 11))] [] σ (if (σ 11 3) ≤ (σ 11 5) then k45 σ else xB (fX7_letterAt N σ (σ 11 5)) (fun y3 m4 => if y3 = 32 then xLet (xUp m4 11 5 ((m4 11 5) + 1)) (fun m6 => fX7_goOn_L8 N k45 n m6) else k45 m4))
    refine j_aload_n (pc := 8) rfl 0 rfl E dX7_goOn_8 ?_
    refine j_get (pc := 9) E xuX7 rfl s_11 (k := 5) (by decide) q_178 rfl (xflds_int rfl) dX7_goOn_9 ?_
    refine j_aload_n (pc := 12) rfl 0 rfl E dX7_goOn_12 ?_
    refine j_get (pc := 13) E xuX7 rfl s_11 (k := 3) (by decide) q_174 rfl (xflds_int rfl) dX7_goOn_13 ?_
    refine j_icmp_ge (pc := 16) (tgt := 45) E dX7_goOn_16 (by decide) ?_ ?_
    · refine JF.sub [0] rfl ?_
      exact K45  σ
    · refine j_aload_n (pc := 19) rfl 0 rfl E dX7_goOn_19 ?_
      refine j_aload_n (pc := 20) rfl 0 rfl E dX7_goOn_20 ?_
      refine j_get (pc := 21) E xuX7 rfl s_11 (k := 5) (by decide) q_178 rfl (xflds_int rfl) dX7_goOn_21 ?_
      refine JF.xb (fun y3 m4 h5 => ?_)
      refine j_callVi (pc := 24) (st := []) E (kX7_letterAt h5) mv_X7_letterAt rfl s_11 q_448 [.int (σ 11 5)] rfl rfl rfl (by decide) (Nat.le_of_ble_eq_true rfl) dX7_goOn_24 ?_
      refine j_bipush (pc := 27) (v := 32) (by decide) E dX7_goOn_27 ?_
      refine j_icmp_ne (pc := 29) (tgt := 45) E dX7_goOn_29 (by decide) ?_ ?_
      · refine j_aload_n (pc := 32) rfl 0 rfl E dX7_goOn_32 ?_
        refine j_dup (pc := 33) rfl E dX7_goOn_33 ?_
        refine j_get (pc := 34) E xuX7 rfl s_11 (k := 5) (by decide) q_178 rfl (xflds_int rfl) dX7_goOn_34 ?_
        refine j_iconst (pc := 37) (v := 1) (by decide) E dX7_goOn_37 ?_
        refine j_iadd (pc := 38) E dX7_goOn_38 ?_
        refine JF.xlet (fun m6 e7 => ?_)
        refine j_put (pc := 39) E xuX7 tyX7 tyX7_ok nmX7 rfl s_11 rfl (k := 5) (by decide) q_178 rfl rfl (ty := .int) (by decide +kernel) rfl rfl dX7_goOn_39 e7 ?_
        refine j_goto (pc := 42) (tgt := 8) E dX7_goOn_42 (by decide) ?_
        refine JF.sub [0] rfl ?_
        exact ih  m6
      · refine JF.sub [0] rfl ?_
        exact K45  m4
def fX7_goOn_L90 (N : Nat) (v1 : Int32) (k126 : XS → Option XO) : Nat → XS → Option XO
  | 0, _ => none
  | n + 1, σ => if (σ 11 3) ≤ (σ 11 6) then k126 σ else xB (fX7_sortAt N σ (σ 11 6)) (fun y16 m17 => if y16 = v1 then xLet (xUp m17 11 6 ((m17 11 6) + 1)) (fun m19 => fX7_goOn_L90 N v1 k126 n m19) else k126 m17)
set_option maxRecDepth 100000 in
set_option maxHeartbeats 4000000 in
theorem lX7_goOn_L90 (N : Nat) (v1 : Int32) (k126 : XS → Option XO) {X : XC} {o : XO} (E : XE X cX7_goOn RX7 2 2 43) (R : XV X o cX7_goOn) (K126 : ∀ (σ : XS), JF X o 2 126 [] [] σ (k126 σ)) : ∀ (n : Nat) (σ : XS), JF X o 2 90 [(0, .ref (xa X 11)), (1, .int v1)] [] σ (fX7_goOn_L90 N v1 k126 n σ) := by
  intro n
  induction n with
  | zero => intro σ; exact JF.none
  | succ n ih =>
    intro σ
    show JF X o 2 90 [(0, .ref (xa X 11)), (1, .int v1)] [] σ (if (σ 11 3) ≤ (σ 11 6) then k126 σ else xB (fX7_sortAt N σ (σ 11 6)) (fun y16 m17 => if y16 = v1 then xLet (xUp m17 11 6 ((m17 11 6) + 1)) (fun m19 => fX7_goOn_L90 N v1 k126 n m19) else k126 m17))
    refine j_aload_n (pc := 90) rfl 0 rfl E dX7_goOn_90 ?_
    refine j_get (pc := 91) E xuX7 rfl s_11 (k := 6) (by decide) q_179 rfl (xflds_int rfl) dX7_goOn_91 ?_
    refine j_aload_n (pc := 94) rfl 0 rfl E dX7_goOn_94 ?_
    refine j_get (pc := 95) E xuX7 rfl s_11 (k := 3) (by decide) q_174 rfl (xflds_int rfl) dX7_goOn_95 ?_
    refine j_icmp_ge (pc := 98) (tgt := 126) E dX7_goOn_98 (by decide) ?_ ?_
    · refine JF.sub [] rfl ?_
      exact K126  σ
    · refine j_aload_n (pc := 101) rfl 0 rfl E dX7_goOn_101 ?_
      refine j_aload_n (pc := 102) rfl 0 rfl E dX7_goOn_102 ?_
      refine j_get (pc := 103) E xuX7 rfl s_11 (k := 6) (by decide) q_179 rfl (xflds_int rfl) dX7_goOn_103 ?_
      refine JF.xb (fun y16 m17 h18 => ?_)
      refine j_callVi (pc := 106) (st := []) E (kX7_sortAt h18) mv_X7_sortAt rfl s_11 q_452 [.int (σ 11 6)] rfl rfl rfl (by decide) (Nat.le_of_ble_eq_true rfl) dX7_goOn_106 ?_
      refine j_iload_n (pc := 109) rfl 1 rfl E dX7_goOn_109 ?_
      refine j_icmp_ne (pc := 110) (tgt := 126) E dX7_goOn_110 (by decide) ?_ ?_
      · refine j_aload_n (pc := 113) rfl 0 rfl E dX7_goOn_113 ?_
        refine j_dup (pc := 114) rfl E dX7_goOn_114 ?_
        refine j_get (pc := 115) E xuX7 rfl s_11 (k := 6) (by decide) q_179 rfl (xflds_int rfl) dX7_goOn_115 ?_
        refine j_iconst (pc := 118) (v := 1) (by decide) E dX7_goOn_118 ?_
        refine j_iadd (pc := 119) E dX7_goOn_119 ?_
        refine JF.xlet (fun m19 e20 => ?_)
        refine j_put (pc := 120) E xuX7 tyX7 tyX7_ok nmX7 rfl s_11 rfl (k := 6) (by decide) q_179 rfl rfl (ty := .int) (by decide +kernel) rfl rfl dX7_goOn_120 e20 ?_
        refine j_goto (pc := 123) (tgt := 90) E dX7_goOn_123 (by decide) ?_
        refine JF.sub [0, 1] rfl ?_
        exact ih  m19
      · refine JF.sub [] rfl ?_
        exact K126  m17
def fX7_goOn_J45 (N : Nat) (σ : XS) : Option XO := xLet (xUp σ 11 6 (σ 11 5)) (fun m9 => if (m9 11 5) < (m9 11 3) then xLet (xUp m9 11 6 ((m9 11 6) + 1)) (fun m11 => xB (fX7_sortAt N m11 (m11 11 5)) (fun y13 m14 => if y13 = 2 then some (0, m14) else fX7_goOn_L90 N y13 (fun m21 => some (0, m21)) N m14)) else some (0, m9))
set_option maxRecDepth 100000 in
set_option maxHeartbeats 4000000 in
theorem lX7_goOn_J45 (N : Nat) {X : XC} {o : XO} (E : XE X cX7_goOn RX7 2 2 43) (R : XV X o cX7_goOn) (σ : XS) : JF X o 2 45 [(0, .ref (xa X 11))] [] σ (fX7_goOn_J45 N σ) := by
  show JF X o 2 45 [(0, .ref (xa X 11))] [] σ (xLet (xUp σ 11 6 (σ 11 5)) (fun m9 => if (m9 11 5) < (m9 11 3) then xLet (xUp m9 11 6 ((m9 11 6) + 1)) (fun m11 => xB (fX7_sortAt N m11 (m11 11 5)) (fun y13 m14 => if y13 = 2 then some (0, m14) else fX7_goOn_L90 N y13 (fun m21 => some (0, m21)) N m14)) else some (0, m9)))
  refine j_aload_n (pc := 45) rfl 0 rfl E dX7_goOn_45 ?_
  refine j_aload_n (pc := 46) rfl 0 rfl E dX7_goOn_46 ?_
  refine j_get (pc := 47) E xuX7 rfl s_11 (k := 5) (by decide) q_178 rfl (xflds_int rfl) dX7_goOn_47 ?_
  refine JF.xlet (fun m9 e10 => ?_)
  refine j_put (pc := 50) E xuX7 tyX7 tyX7_ok nmX7 rfl s_11 rfl (k := 6) (by decide) q_179 rfl rfl (ty := .int) (by decide +kernel) rfl rfl dX7_goOn_50 e10 ?_
  refine j_aload_n (pc := 53) rfl 0 rfl E dX7_goOn_53 ?_
  refine j_get (pc := 54) E xuX7 rfl s_11 (k := 5) (by decide) q_178 rfl (xflds_int rfl) dX7_goOn_54 ?_
  refine j_aload_n (pc := 57) rfl 0 rfl E dX7_goOn_57 ?_
  refine j_get (pc := 58) E xuX7 rfl s_11 (k := 3) (by decide) q_174 rfl (xflds_int rfl) dX7_goOn_58 ?_
  refine j_icmp_lt (pc := 61) (tgt := 65) E dX7_goOn_61 (by decide) ?_ ?_
  · refine j_aload_n (pc := 65) rfl 0 rfl E dX7_goOn_65 ?_
    refine j_dup (pc := 66) rfl E dX7_goOn_66 ?_
    refine j_get (pc := 67) E xuX7 rfl s_11 (k := 6) (by decide) q_179 rfl (xflds_int rfl) dX7_goOn_67 ?_
    refine j_iconst (pc := 70) (v := 1) (by decide) E dX7_goOn_70 ?_
    refine j_iadd (pc := 71) E dX7_goOn_71 ?_
    refine JF.xlet (fun m11 e12 => ?_)
    refine j_put (pc := 72) E xuX7 tyX7 tyX7_ok nmX7 rfl s_11 rfl (k := 6) (by decide) q_179 rfl rfl (ty := .int) (by decide +kernel) rfl rfl dX7_goOn_72 e12 ?_
    refine j_aload_n (pc := 75) rfl 0 rfl E dX7_goOn_75 ?_
    refine j_aload_n (pc := 76) rfl 0 rfl E dX7_goOn_76 ?_
    refine j_get (pc := 77) E xuX7 rfl s_11 (k := 5) (by decide) q_178 rfl (xflds_int rfl) dX7_goOn_77 ?_
    refine JF.xb (fun y13 m14 h15 => ?_)
    refine j_callVi (pc := 80) (st := []) E (kX7_sortAt h15) mv_X7_sortAt rfl s_11 q_452 [.int (m11 11 5)] rfl rfl rfl (by decide) (Nat.le_of_ble_eq_true rfl) dX7_goOn_80 ?_
    refine j_istore_n (pc := 83) (lv1 := [(1, .int y13), (0, .ref (xa X 11))]) E dX7_goOn_83 rfl (by decide) rfl ?_
    refine j_iload_n (pc := 84) rfl 0 rfl E dX7_goOn_84 ?_
    refine j_iconst (pc := 85) (v := 2) (by decide) E dX7_goOn_85 ?_
    refine j_icmp_ne (pc := 86) (tgt := 90) E dX7_goOn_86 (by decide) ?_ ?_
    · exact j_vret (pc := 89) E R dX7_goOn_89
    · refine JF.sub [1, 0] rfl ?_
      refine lX7_goOn_L90 N y13 _ E R (fun m21 => ?_) N m14
      · exact j_vret (pc := 126) E R dX7_goOn_126
  · exact j_vret (pc := 64) E R dX7_goOn_64
def fX7_goOn (N : Nat) (σ : XS) : Option XO := xLet (xUp σ 11 5 (σ 11 6)) (fun m1 => fX7_goOn_L8 N (fun m8 => fX7_goOn_J45 N m8) N m1)
set_option maxRecDepth 100000 in
set_option maxHeartbeats 4000000 in
theorem kX7_goOn {N : Nat} {σ : XS} {o : XO} (h : fX7_goOn N σ = some o) : CtV yX7_goOn cX7_goOn 2 none 2 43 (fun Am ad => [.ref (Am 11)]) σ o := by
  refine ct_void (by decide) (fun _ _ => Nat.le_of_ble_eq_true rfl) (fun X E R => ?_)
  rw [← h]
  show JF X o 2 0 [(0, .ref (xa X 11))] [] σ (xLet (xUp σ 11 5 (σ 11 6)) (fun m1 => fX7_goOn_L8 N (fun m8 => fX7_goOn_J45 N m8) N m1))
  refine j_aload_n (pc := 0) rfl 0 rfl E dX7_goOn_0 ?_
  refine j_aload_n (pc := 1) rfl 0 rfl E dX7_goOn_1 ?_
  refine j_get (pc := 2) E xuX7 rfl s_11 (k := 6) (by decide) q_179 rfl (xflds_int rfl) dX7_goOn_2 ?_
  refine JF.xlet (fun m1 e2 => ?_)
  refine j_put (pc := 5) E xuX7 tyX7 tyX7_ok nmX7 rfl s_11 rfl (k := 5) (by decide) q_178 rfl rfl (ty := .int) (by decide +kernel) rfl rfl dX7_goOn_5 e2 ?_
  refine JF.sub [0] rfl ?_
  refine lX7_goOn_L8 N _ E R (fun m8 => ?_) N m1
  · refine JF.sub [0] rfl ?_
    exact lX7_goOn_J45 N E R m8
def fX7_isHere_L20 (N : Nat) (v1 : Nat) (k46 : XS → Option XO) (k54 : XS → Option XO) : Nat → Int32 → XS → Option XO
  | 0, _, _ => none
  | n + 1, v2, σ => gd (decide (v1 < 20)) (if (xslen v1) ≤ v2 then k54 σ else xB (fX7_letterAt N σ ((σ 11 5) + v2)) (fun y1 m2 => gd (decide (v1 < 20) && xin v2 (xlenS.getD v1 0)) (if y1 = (xschar v1 v2) then fX7_isHere_L20 N v1 k46 k54 n (v2 + 1) m2 else k46 m2)))
set_option maxRecDepth 100000 in
set_option maxHeartbeats 4000000 in
theorem lX7_isHere_L20 (N : Nat) (v1 : Nat) (k46 : XS → Option XO) (k54 : XS → Option XO) {X : XC} {o : XO} (E : XE X cX7_isHere RX7 3 4 120) (R : XZ X o cX7_isHere .boolean) (K46 : ∀ (σ : XS), JF X o 3 46 [] [] σ (k46 σ)) (K54 : ∀ (σ : XS), JF X o 3 54 [] [] σ (k54 σ)) : ∀ (n : Nat) (v2 : Int32) (σ : XS), JF X o 3 20 [(0, .ref (xa X 11)), (1, .ref (xk X v1)), (2, .int v2)] [] σ (fX7_isHere_L20 N v1 k46 k54 n v2 σ) := by
  intro n
  induction n with
  | zero => intro v2 σ; exact JF.none
  | succ n ih =>
    intro v2 σ
    show JF X o 3 20 [(0, .ref (xa X 11)), (1, .ref (xk X v1)), (2, .int v2)] [] σ (gd (decide (v1 < 20)) (if (xslen v1) ≤ v2 then k54 σ else xB (fX7_letterAt N σ ((σ 11 5) + v2)) (fun y1 m2 => gd (decide (v1 < 20) && xin v2 (xlenS.getD v1 0)) (if y1 = (xschar v1 v2) then fX7_isHere_L20 N v1 k46 k54 n (v2 + 1) m2 else k46 m2))))
    refine j_iload_n (pc := 20) rfl 2 rfl E dX7_isHere_20 ?_
    refine j_aload_n (pc := 21) rfl 1 rfl E dX7_isHere_21 ?_
    refine j_strlen (pc := 22) E q_485 (by decide) (Nat.le_of_ble_eq_true rfl) dX7_isHere_22 ?_
    refine j_icmp_ge (pc := 25) (tgt := 54) E dX7_isHere_25 (by decide) ?_ ?_
    · refine JF.sub [] rfl ?_
      exact K54  σ
    · refine j_aload_n (pc := 28) rfl 0 rfl E dX7_isHere_28 ?_
      refine j_aload_n (pc := 29) rfl 0 rfl E dX7_isHere_29 ?_
      refine j_get (pc := 30) E xuX7 rfl s_11 (k := 5) (by decide) q_178 rfl (xflds_int rfl) dX7_isHere_30 ?_
      refine j_iload_n (pc := 33) rfl 2 rfl E dX7_isHere_33 ?_
      refine j_iadd (pc := 34) E dX7_isHere_34 ?_
      refine JF.xb (fun y1 m2 h3 => ?_)
      refine j_callVi (pc := 35) (st := []) E (kX7_letterAt h3) mv_X7_letterAt rfl s_11 q_448 [.int ((σ 11 5) + v2)] rfl rfl rfl (by decide) (Nat.le_of_ble_eq_true rfl) dX7_isHere_35 ?_
      refine j_aload_n (pc := 38) rfl 1 rfl E dX7_isHere_38 ?_
      refine j_iload_n (pc := 39) rfl 2 rfl E dX7_isHere_39 ?_
      refine j_strchar (pc := 40) E q_495 (by decide) (Nat.le_of_ble_eq_true rfl) dX7_isHere_40 ?_
      refine j_icmp_eq (pc := 43) (tgt := 48) E dX7_isHere_43 (by decide) ?_ ?_
      · refine j_iinc (pc := 48) (v := (v2 + 1)) (lv1 := [(2, .int (v2 + 1)), (0, .ref (xa X 11)), (1, .ref (xk X v1))]) E dX7_isHere_48 2 rfl rfl (by decide) rfl ?_
        refine j_goto (pc := 51) (tgt := 20) E dX7_isHere_51 (by decide) ?_
        refine JF.sub [1, 2, 0] rfl ?_
        exact ih (v2 + 1) m2
      · refine JF.sub [] rfl ?_
        exact K46  m2
def fX7_isHere (N : Nat) (σ : XS) (k1 : Nat) : Option XO := gd (decide (k1 < 20)) (if (xslen k1) = ((σ 11 6) - (σ 11 5)) then fX7_isHere_L20 N k1 (fun m4 => some (0, m4)) (fun m5 => some (1, m5)) N 0 σ else some (0, σ))
set_option maxRecDepth 100000 in
set_option maxHeartbeats 4000000 in
theorem kX7_isHere {N : Nat} {σ : XS} {k1 : Nat} {o : XO} (h : fX7_isHere N σ k1 = some o) : CtI yX7_isHere cX7_isHere 3 (some .boolean) 4 120 (fun Am ad => [.ref (Am 11), .ref (ad k1)]) σ o := by
  refine ct_z (by decide) (fun _ _ => Nat.le_of_ble_eq_true rfl) (fun X E R => ?_)
  rw [← h]
  show JF X o 3 0 [(0, .ref (xa X 11)), (1, .ref (xk X k1))] [] σ (gd (decide (k1 < 20)) (if (xslen k1) = ((σ 11 6) - (σ 11 5)) then fX7_isHere_L20 N k1 (fun m4 => some (0, m4)) (fun m5 => some (1, m5)) N 0 σ else some (0, σ)))
  refine j_aload_n (pc := 0) rfl 1 rfl E dX7_isHere_0 ?_
  refine j_strlen (pc := 1) E q_485 (by decide) (Nat.le_of_ble_eq_true rfl) dX7_isHere_1 ?_
  refine j_aload_n (pc := 4) rfl 0 rfl E dX7_isHere_4 ?_
  refine j_get (pc := 5) E xuX7 rfl s_11 (k := 6) (by decide) q_179 rfl (xflds_int rfl) dX7_isHere_5 ?_
  refine j_aload_n (pc := 8) rfl 0 rfl E dX7_isHere_8 ?_
  refine j_get (pc := 9) E xuX7 rfl s_11 (k := 5) (by decide) q_178 rfl (xflds_int rfl) dX7_isHere_9 ?_
  refine j_isub (pc := 12) E dX7_isHere_12 ?_
  refine j_icmp_eq (pc := 13) (tgt := 18) E dX7_isHere_13 (by decide) ?_ ?_
  · refine j_iconst (pc := 18) (v := 0) (by decide) E dX7_isHere_18 ?_
    refine j_istore_n (pc := 19) (lv1 := [(2, .int 0), (0, .ref (xa X 11)), (1, .ref (xk X k1))]) E dX7_isHere_19 rfl (by decide) rfl ?_
    refine JF.sub [1, 2, 0] rfl ?_
    refine lX7_isHere_L20 N k1 _ _ E R (fun m4 => ?_) (fun m5 => ?_) N 0 σ
    · refine j_iconst (pc := 46) (v := 0) (by decide) E dX7_isHere_46 ?_
      exact j_zret (pc := 47) E R rfl dX7_isHere_47
    · refine j_iconst (pc := 54) (v := 1) (by decide) E dX7_isHere_54 ?_
      exact j_zret (pc := 55) E R rfl dX7_isHere_55
  · refine j_iconst (pc := 16) (v := 0) (by decide) E dX7_isHere_16 ?_
    exact j_zret (pc := 17) E R rfl dX7_isHere_17
def fX7_nameOf (N : Nat) (σ : XS) (p1 : Int32) : Option XO := if p1 = 0 then some (nI 0, σ) else if p1 = 1 then some (nI 1, σ) else if p1 = 2 then some (nI 2, σ) else if p1 = 3 then some (nI 3, σ) else if p1 = 4 then some (nI 4, σ) else if p1 = 5 then some (nI 5, σ) else if p1 = 6 then some (nI 6, σ) else if p1 = 7 then some (nI 7, σ) else if p1 = 8 then some (nI 8, σ) else if p1 = 9 then some (nI 9, σ) else if p1 = 10 then some (nI 10, σ) else if p1 = 11 then some (nI 11, σ) else if p1 = 12 then some (nI 12, σ) else some (nI 13, σ)
set_option maxRecDepth 100000 in
set_option maxHeartbeats 4000000 in
theorem kX7_nameOf {N : Nat} {σ : XS} {p1 : Int32} {o : XO} (h : fX7_nameOf N σ p1 = some o) : CtR yX7_nameOf cX7_nameOf 1 (some (.object "java/lang/String")) 0 0 (fun Am ad => [.int p1]) σ o := by
  refine ct_ref (by decide) (fun _ _ => Nat.le_of_ble_eq_true rfl) (fun X E R => ?_)
  rw [← h]
  show JF X o 1 0 [(0, .int p1)] [] σ (if p1 = 0 then some (nI 0, σ) else if p1 = 1 then some (nI 1, σ) else if p1 = 2 then some (nI 2, σ) else if p1 = 3 then some (nI 3, σ) else if p1 = 4 then some (nI 4, σ) else if p1 = 5 then some (nI 5, σ) else if p1 = 6 then some (nI 6, σ) else if p1 = 7 then some (nI 7, σ) else if p1 = 8 then some (nI 8, σ) else if p1 = 9 then some (nI 9, σ) else if p1 = 10 then some (nI 10, σ) else if p1 = 11 then some (nI 11, σ) else if p1 = 12 then some (nI 12, σ) else some (nI 13, σ))
  refine j_iload_n (pc := 0) rfl 0 rfl E dX7_nameOf_0 ?_
  refine JF.ite (fun c1 => ?_) (fun c1 => ?_)
  · refine j_tabIn (pc := 1) (tgt := 68) E dX7_nameOf_1 c1 (by decide) (by decide) rfl (by decide) ?_
    refine j_ldcS (pc := 68) (k := 0) E rfl (by decide) dX7_nameOf_68 ?_
    exact j_aret (pc := 70) E R (by decide) dX7_nameOf_70
  refine JF.ite (fun c2 => ?_) (fun c2 => ?_)
  · refine j_tabIn (tgt := 71) E dX7_nameOf_1 c2 (by decide) (by decide) rfl (by decide) ?_
    refine j_ldcS (pc := 71) (k := 1) E rfl (by decide) dX7_nameOf_71 ?_
    exact j_aret (pc := 73) E R (by decide) dX7_nameOf_73
  refine JF.ite (fun c3 => ?_) (fun c3 => ?_)
  · refine j_tabIn (tgt := 74) E dX7_nameOf_1 c3 (by decide) (by decide) rfl (by decide) ?_
    refine j_ldcS (pc := 74) (k := 2) E rfl (by decide) dX7_nameOf_74 ?_
    exact j_aret (pc := 76) E R (by decide) dX7_nameOf_76
  refine JF.ite (fun c4 => ?_) (fun c4 => ?_)
  · refine j_tabIn (tgt := 77) E dX7_nameOf_1 c4 (by decide) (by decide) rfl (by decide) ?_
    refine j_ldcS (pc := 77) (k := 3) E rfl (by decide) dX7_nameOf_77 ?_
    exact j_aret (pc := 79) E R (by decide) dX7_nameOf_79
  refine JF.ite (fun c5 => ?_) (fun c5 => ?_)
  · refine j_tabIn (tgt := 80) E dX7_nameOf_1 c5 (by decide) (by decide) rfl (by decide) ?_
    refine j_ldcS (pc := 80) (k := 4) E rfl (by decide) dX7_nameOf_80 ?_
    exact j_aret (pc := 82) E R (by decide) dX7_nameOf_82
  refine JF.ite (fun c6 => ?_) (fun c6 => ?_)
  · refine j_tabIn (tgt := 83) E dX7_nameOf_1 c6 (by decide) (by decide) rfl (by decide) ?_
    refine j_ldcS (pc := 83) (k := 5) E rfl (by decide) dX7_nameOf_83 ?_
    exact j_aret (pc := 85) E R (by decide) dX7_nameOf_85
  refine JF.ite (fun c7 => ?_) (fun c7 => ?_)
  · refine j_tabIn (tgt := 86) E dX7_nameOf_1 c7 (by decide) (by decide) rfl (by decide) ?_
    refine j_ldcS (pc := 86) (k := 6) E rfl (by decide) dX7_nameOf_86 ?_
    exact j_aret (pc := 88) E R (by decide) dX7_nameOf_88
  refine JF.ite (fun c8 => ?_) (fun c8 => ?_)
  · refine j_tabIn (tgt := 89) E dX7_nameOf_1 c8 (by decide) (by decide) rfl (by decide) ?_
    refine j_ldcS (pc := 89) (k := 7) E rfl (by decide) dX7_nameOf_89 ?_
    exact j_aret (pc := 91) E R (by decide) dX7_nameOf_91
  refine JF.ite (fun c9 => ?_) (fun c9 => ?_)
  · refine j_tabIn (tgt := 92) E dX7_nameOf_1 c9 (by decide) (by decide) rfl (by decide) ?_
    refine j_ldcS (pc := 92) (k := 8) E rfl (by decide) dX7_nameOf_92 ?_
    exact j_aret (pc := 94) E R (by decide) dX7_nameOf_94
  refine JF.ite (fun c10 => ?_) (fun c10 => ?_)
  · refine j_tabIn (tgt := 95) E dX7_nameOf_1 c10 (by decide) (by decide) rfl (by decide) ?_
    refine j_ldcS (pc := 95) (k := 9) E rfl (by decide) dX7_nameOf_95 ?_
    exact j_aret (pc := 97) E R (by decide) dX7_nameOf_97
  refine JF.ite (fun c11 => ?_) (fun c11 => ?_)
  · refine j_tabIn (tgt := 98) E dX7_nameOf_1 c11 (by decide) (by decide) rfl (by decide) ?_
    refine j_ldcS (pc := 98) (k := 10) E rfl (by decide) dX7_nameOf_98 ?_
    exact j_aret (pc := 100) E R (by decide) dX7_nameOf_100
  refine JF.ite (fun c12 => ?_) (fun c12 => ?_)
  · refine j_tabIn (tgt := 101) E dX7_nameOf_1 c12 (by decide) (by decide) rfl (by decide) ?_
    refine j_ldcS (pc := 101) (k := 11) E rfl (by decide) dX7_nameOf_101 ?_
    exact j_aret (pc := 103) E R (by decide) dX7_nameOf_103
  refine JF.ite (fun c13 => ?_) (fun c13 => ?_)
  · refine j_tabIn (tgt := 104) E dX7_nameOf_1 c13 (by decide) (by decide) rfl (by decide) ?_
    refine j_ldcS (pc := 104) (k := 12) E rfl (by decide) dX7_nameOf_104 ?_
    exact j_aret (pc := 106) E R (by decide) dX7_nameOf_106
  refine j_tabOut (tgt := 107) E dX7_nameOf_1 (by have := xne c1 (k := 0) (by decide); have := xne c2 (k := 1) (by decide); have := xne c3 (k := 2) (by decide); have := xne c4 (k := 3) (by decide); have := xne c5 (k := 4) (by decide); have := xne c6 (k := 5) (by decide); have := xne c7 (k := 6) (by decide); have := xne c8 (k := 7) (by decide); have := xne c9 (k := 8) (by decide); have := xne c10 (k := 9) (by decide); have := xne c11 (k := 10) (by decide); have := xne c12 (k := 11) (by decide); have := xne c13 (k := 12) (by decide); omega) (by decide) ?_
  refine j_ldcS (pc := 107) (k := 13) E rfl (by decide) dX7_nameOf_107 ?_
  exact j_aret (pc := 109) E R (by decide) dX7_nameOf_109
def fX7_clauseHere_L2 (N : Nat) (k19 : Int32 → XS → Option XO) (k27 : XS → Option XO) : Nat → Int32 → XS → Option XO
  | 0, _, _ => none
  | n + 1, v1, σ => if 14 ≤ v1 then k27 σ else xB (fX7_nameOf N σ v1) (fun y1 m2 => xB (fX7_isHere N m2 y1.toNatClampNeg) (fun y4 m5 => if y4 = 0 then fX7_clauseHere_L2 N k19 k27 n (v1 + 1) m5 else k19 v1 m5))
set_option maxRecDepth 100000 in
set_option maxHeartbeats 4000000 in
theorem lX7_clauseHere_L2 (N : Nat) (k19 : Int32 → XS → Option XO) (k27 : XS → Option XO) {X : XC} {o : XO} (E : XE X cX7_clauseHere RX7 2 5 142) (R : XI X o cX7_clauseHere) (K19 : ∀ (v1 : Int32) (σ : XS), JF X o 2 19 [(1, .int v1)] [] σ (k19 v1 σ)) (K27 : ∀ (σ : XS), JF X o 2 27 [] [] σ (k27 σ)) : ∀ (n : Nat) (v1 : Int32) (σ : XS), JF X o 2 2 [(0, .ref (xa X 11)), (1, .int v1)] [] σ (fX7_clauseHere_L2 N k19 k27 n v1 σ) := by
  intro n
  induction n with
  | zero => intro v1 σ; exact JF.none
  | succ n ih =>
    intro v1 σ
    show JF X o 2 2 [(0, .ref (xa X 11)), (1, .int v1)] [] σ (if 14 ≤ v1 then k27 σ else xB (fX7_nameOf N σ v1) (fun y1 m2 => xB (fX7_isHere N m2 y1.toNatClampNeg) (fun y4 m5 => if y4 = 0 then fX7_clauseHere_L2 N k19 k27 n (v1 + 1) m5 else k19 v1 m5)))
    refine j_iload_n (pc := 2) rfl 1 rfl E dX7_clauseHere_2 ?_
    refine j_bipush (pc := 3) (v := 14) (by decide) E dX7_clauseHere_3 ?_
    refine j_icmp_ge (pc := 5) (tgt := 27) E dX7_clauseHere_5 (by decide) ?_ ?_
    · refine JF.sub [] rfl ?_
      exact K27  σ
    · refine j_aload_n (pc := 8) rfl 0 rfl E dX7_clauseHere_8 ?_
      refine j_iload_n (pc := 9) rfl 1 rfl E dX7_clauseHere_9 ?_
      refine JF.xb (fun y1 m2 h3 => ?_)
      refine j_callSr (pc := 10) (st := [.ref (xa X 11)]) E (kX7_nameOf h3) mv_X7_nameOf q_464 [.int v1] rfl rfl rfl (by decide) (Nat.le_of_ble_eq_true rfl) dX7_clauseHere_10 ?_
      refine JF.xb (fun y4 m5 h6 => ?_)
      refine j_callVi (pc := 13) (st := []) E (kX7_isHere h6) mv_X7_isHere rfl s_11 q_481 [.ref (xk X y1.toNatClampNeg)] rfl rfl rfl (by decide) (Nat.le_of_ble_eq_true rfl) dX7_clauseHere_13 ?_
      refine j_if_eq (pc := 16) (tgt := 21) E dX7_clauseHere_16 (by decide) ?_ ?_
      · refine j_iinc (pc := 21) (v := (v1 + 1)) (lv1 := [(1, .int (v1 + 1)), (0, .ref (xa X 11))]) E dX7_clauseHere_21 1 rfl rfl (by decide) rfl ?_
        refine j_goto (pc := 24) (tgt := 2) E dX7_clauseHere_24 (by decide) ?_
        refine JF.sub [1, 0] rfl ?_
        exact ih (v1 + 1) m5
      · refine JF.sub [1] rfl ?_
        exact K19 v1 m5
def fX7_clauseHere (N : Nat) (σ : XS) : Option XO := fX7_clauseHere_L2 N (fun x7 m8 => some (x7, m8)) (fun m9 => some ((-1), m9)) N 0 σ
set_option maxRecDepth 100000 in
set_option maxHeartbeats 4000000 in
theorem kX7_clauseHere {N : Nat} {σ : XS} {o : XO} (h : fX7_clauseHere N σ = some o) : CtI yX7_clauseHere cX7_clauseHere 2 (some .int) 5 142 (fun Am ad => [.ref (Am 11)]) σ o := by
  refine ct_int (by decide) (fun _ _ => Nat.le_of_ble_eq_true rfl) (fun X E R => ?_)
  rw [← h]
  show JF X o 2 0 [(0, .ref (xa X 11))] [] σ (fX7_clauseHere_L2 N (fun x7 m8 => some (x7, m8)) (fun m9 => some ((-1), m9)) N 0 σ)
  refine j_iconst (pc := 0) (v := 0) (by decide) E dX7_clauseHere_0 ?_
  refine j_istore_n (pc := 1) (lv1 := [(1, .int 0), (0, .ref (xa X 11))]) E dX7_clauseHere_1 rfl (by decide) rfl ?_
  refine JF.sub [1, 0] rfl ?_
  refine lX7_clauseHere_L2 N _ _ E R (fun x7 m8 => ?_) (fun m9 => ?_) N 0 σ
  · refine j_iload_n (pc := 19) rfl 0 rfl E dX7_clauseHere_19 ?_
    exact j_iret (pc := 20) E R dX7_clauseHere_20
  · refine j_iconst (pc := 27) (v := (-1)) (by decide) E dX7_clauseHere_27 ?_
    exact j_iret (pc := 28) E R dX7_clauseHere_28
def fX7_hasRoomFor_J77 (N : Nat) (σ : XS) : Option XO := if 9 < (σ 11 7) then some (0, σ) else if 6 < (σ 11 8) then some (0, σ) else if 3 < (σ 11 9) then some (0, σ) else some (1, σ)
set_option maxRecDepth 100000 in
set_option maxHeartbeats 4000000 in
theorem lX7_hasRoomFor_J77 (N : Nat) {X : XC} {o : XO} (E : XE X cX7_hasRoomFor RX7 2 0 0) (R : XZ X o cX7_hasRoomFor .boolean) (σ : XS) : JF X o 2 77 [(0, .ref (xa X 11))] [] σ (fX7_hasRoomFor_J77 N σ) := by
  show JF X o 2 77 [(0, .ref (xa X 11))] [] σ (if 9 < (σ 11 7) then some (0, σ) else if 6 < (σ 11 8) then some (0, σ) else if 3 < (σ 11 9) then some (0, σ) else some (1, σ))
  refine j_aload_n (pc := 77) rfl 0 rfl E dX7_hasRoomFor_77 ?_
  refine j_get (pc := 78) E xuX7 rfl s_11 (k := 7) (by decide) q_180 rfl (xflds_int rfl) dX7_hasRoomFor_78 ?_
  refine j_bipush (pc := 81) (v := 9) (by decide) E dX7_hasRoomFor_81 ?_
  refine j_icmp_gt (pc := 83) (tgt := 107) E dX7_hasRoomFor_83 (by decide) ?_ ?_
  · refine j_iconst (pc := 107) (v := 0) (by decide) E dX7_hasRoomFor_107 ?_
    exact j_zret (pc := 108) E R rfl dX7_hasRoomFor_108
  · refine j_aload_n (pc := 86) rfl 0 rfl E dX7_hasRoomFor_86 ?_
    refine j_get (pc := 87) E xuX7 rfl s_11 (k := 8) (by decide) q_181 rfl (xflds_int rfl) dX7_hasRoomFor_87 ?_
    refine j_bipush (pc := 90) (v := 6) (by decide) E dX7_hasRoomFor_90 ?_
    refine j_icmp_gt (pc := 92) (tgt := 107) E dX7_hasRoomFor_92 (by decide) ?_ ?_
    · refine j_iconst (pc := 107) (v := 0) (by decide) E dX7_hasRoomFor_107 ?_
      exact j_zret (pc := 108) E R rfl dX7_hasRoomFor_108
    · refine j_aload_n (pc := 95) rfl 0 rfl E dX7_hasRoomFor_95 ?_
      refine j_get (pc := 96) E xuX7 rfl s_11 (k := 9) (by decide) q_182 rfl (xflds_int rfl) dX7_hasRoomFor_96 ?_
      refine j_iconst (pc := 99) (v := 3) (by decide) E dX7_hasRoomFor_99 ?_
      refine j_icmp_gt (pc := 100) (tgt := 107) E dX7_hasRoomFor_100 (by decide) ?_ ?_
      · refine j_iconst (pc := 107) (v := 0) (by decide) E dX7_hasRoomFor_107 ?_
        exact j_zret (pc := 108) E R rfl dX7_hasRoomFor_108
      · refine j_iconst (pc := 103) (v := 1) (by decide) E dX7_hasRoomFor_103 ?_
        refine j_goto (pc := 104) (tgt := 108) E dX7_hasRoomFor_104 (by decide) ?_
        exact j_zret (pc := 108) E R rfl dX7_hasRoomFor_108
def fX7_hasRoomFor (N : Nat) (σ : XS) (p1 : Int32) : Option XO := if 3 < p1 then if 7 ≤ p1 then if p1 = 12 then xLet (xUp σ 11 8 ((σ 11 8) + 1)) (fun m7 => fX7_hasRoomFor_J77 N m7) else if p1 = 10 then xLet (xUp σ 11 7 0) (fun m1 => xLet (xUp m1 11 8 0) (fun m3 => xLet (xUp m3 11 9 0) (fun m5 => fX7_hasRoomFor_J77 N m5))) else fX7_hasRoomFor_J77 N σ else xLet (xUp σ 11 9 ((σ 11 9) + 1)) (fun m9 => fX7_hasRoomFor_J77 N m9) else xLet (xUp σ 11 7 ((σ 11 7) + 1)) (fun m11 => fX7_hasRoomFor_J77 N m11)
set_option maxRecDepth 100000 in
set_option maxHeartbeats 4000000 in
theorem kX7_hasRoomFor {N : Nat} {σ : XS} {p1 : Int32} {o : XO} (h : fX7_hasRoomFor N σ p1 = some o) : CtI yX7_hasRoomFor cX7_hasRoomFor 2 (some .boolean) 0 0 (fun Am ad => [.ref (Am 11), .int p1]) σ o := by
  refine ct_z (by decide) (fun _ _ => Nat.le_of_ble_eq_true rfl) (fun X E R => ?_)
  rw [← h]
  show JF X o 2 0 [(0, .ref (xa X 11)), (1, .int p1)] [] σ (if 3 < p1 then if 7 ≤ p1 then if p1 = 12 then xLet (xUp σ 11 8 ((σ 11 8) + 1)) (fun m7 => fX7_hasRoomFor_J77 N m7) else if p1 = 10 then xLet (xUp σ 11 7 0) (fun m1 => xLet (xUp m1 11 8 0) (fun m3 => xLet (xUp m3 11 9 0) (fun m5 => fX7_hasRoomFor_J77 N m5))) else fX7_hasRoomFor_J77 N σ else xLet (xUp σ 11 9 ((σ 11 9) + 1)) (fun m9 => fX7_hasRoomFor_J77 N m9) else xLet (xUp σ 11 7 ((σ 11 7) + 1)) (fun m11 => fX7_hasRoomFor_J77 N m11))
  refine j_iload_n (pc := 0) rfl 1 rfl E dX7_hasRoomFor_0 ?_
  refine j_iconst (pc := 1) (v := 3) (by decide) E dX7_hasRoomFor_1 ?_
  refine j_icmp_gt (pc := 2) (tgt := 18) E dX7_hasRoomFor_2 (by decide) ?_ ?_
  · refine j_iload_n (pc := 18) rfl 1 rfl E dX7_hasRoomFor_18 ?_
    refine j_bipush (pc := 19) (v := 7) (by decide) E dX7_hasRoomFor_19 ?_
    refine j_icmp_ge (pc := 21) (tgt := 37) E dX7_hasRoomFor_21 (by decide) ?_ ?_
    · refine j_iload_n (pc := 37) rfl 1 rfl E dX7_hasRoomFor_37 ?_
      refine j_bipush (pc := 38) (v := 12) (by decide) E dX7_hasRoomFor_38 ?_
      refine j_icmp_ne (pc := 40) (tgt := 56) E dX7_hasRoomFor_40 (by decide) ?_ ?_
      · refine j_aload_n (pc := 43) rfl 0 rfl E dX7_hasRoomFor_43 ?_
        refine j_dup (pc := 44) rfl E dX7_hasRoomFor_44 ?_
        refine j_get (pc := 45) E xuX7 rfl s_11 (k := 8) (by decide) q_181 rfl (xflds_int rfl) dX7_hasRoomFor_45 ?_
        refine j_iconst (pc := 48) (v := 1) (by decide) E dX7_hasRoomFor_48 ?_
        refine j_iadd (pc := 49) E dX7_hasRoomFor_49 ?_
        refine JF.xlet (fun m7 e8 => ?_)
        refine j_put (pc := 50) E xuX7 tyX7 tyX7_ok nmX7 rfl s_11 rfl (k := 8) (by decide) q_181 rfl rfl (ty := .int) (by decide +kernel) rfl rfl dX7_hasRoomFor_50 e8 ?_
        refine j_goto (pc := 53) (tgt := 77) E dX7_hasRoomFor_53 (by decide) ?_
        refine JF.sub [0] rfl ?_
        exact lX7_hasRoomFor_J77 N E R m7
      · refine j_iload_n (pc := 56) rfl 1 rfl E dX7_hasRoomFor_56 ?_
        refine j_bipush (pc := 57) (v := 10) (by decide) E dX7_hasRoomFor_57 ?_
        refine j_icmp_ne (pc := 59) (tgt := 77) E dX7_hasRoomFor_59 (by decide) ?_ ?_
        · refine j_aload_n (pc := 62) rfl 0 rfl E dX7_hasRoomFor_62 ?_
          refine j_iconst (pc := 63) (v := 0) (by decide) E dX7_hasRoomFor_63 ?_
          refine JF.xlet (fun m1 e2 => ?_)
          refine j_put (pc := 64) E xuX7 tyX7 tyX7_ok nmX7 rfl s_11 rfl (k := 7) (by decide) q_180 rfl rfl (ty := .int) (by decide +kernel) rfl rfl dX7_hasRoomFor_64 e2 ?_
          refine j_aload_n (pc := 67) rfl 0 rfl E dX7_hasRoomFor_67 ?_
          refine j_iconst (pc := 68) (v := 0) (by decide) E dX7_hasRoomFor_68 ?_
          refine JF.xlet (fun m3 e4 => ?_)
          refine j_put (pc := 69) E xuX7 tyX7 tyX7_ok nmX7 rfl s_11 rfl (k := 8) (by decide) q_181 rfl rfl (ty := .int) (by decide +kernel) rfl rfl dX7_hasRoomFor_69 e4 ?_
          refine j_aload_n (pc := 72) rfl 0 rfl E dX7_hasRoomFor_72 ?_
          refine j_iconst (pc := 73) (v := 0) (by decide) E dX7_hasRoomFor_73 ?_
          refine JF.xlet (fun m5 e6 => ?_)
          refine j_put (pc := 74) E xuX7 tyX7 tyX7_ok nmX7 rfl s_11 rfl (k := 9) (by decide) q_182 rfl rfl (ty := .int) (by decide +kernel) rfl rfl dX7_hasRoomFor_74 e6 ?_
          refine JF.sub [0] rfl ?_
          exact lX7_hasRoomFor_J77 N E R m5
        · refine JF.sub [0] rfl ?_
          exact lX7_hasRoomFor_J77 N E R σ
    · refine j_aload_n (pc := 24) rfl 0 rfl E dX7_hasRoomFor_24 ?_
      refine j_dup (pc := 25) rfl E dX7_hasRoomFor_25 ?_
      refine j_get (pc := 26) E xuX7 rfl s_11 (k := 9) (by decide) q_182 rfl (xflds_int rfl) dX7_hasRoomFor_26 ?_
      refine j_iconst (pc := 29) (v := 1) (by decide) E dX7_hasRoomFor_29 ?_
      refine j_iadd (pc := 30) E dX7_hasRoomFor_30 ?_
      refine JF.xlet (fun m9 e10 => ?_)
      refine j_put (pc := 31) E xuX7 tyX7 tyX7_ok nmX7 rfl s_11 rfl (k := 9) (by decide) q_182 rfl rfl (ty := .int) (by decide +kernel) rfl rfl dX7_hasRoomFor_31 e10 ?_
      refine j_goto (pc := 34) (tgt := 77) E dX7_hasRoomFor_34 (by decide) ?_
      refine JF.sub [0] rfl ?_
      exact lX7_hasRoomFor_J77 N E R m9
  · refine j_aload_n (pc := 5) rfl 0 rfl E dX7_hasRoomFor_5 ?_
    refine j_dup (pc := 6) rfl E dX7_hasRoomFor_6 ?_
    refine j_get (pc := 7) E xuX7 rfl s_11 (k := 7) (by decide) q_180 rfl (xflds_int rfl) dX7_hasRoomFor_7 ?_
    refine j_iconst (pc := 10) (v := 1) (by decide) E dX7_hasRoomFor_10 ?_
    refine j_iadd (pc := 11) E dX7_hasRoomFor_11 ?_
    refine JF.xlet (fun m11 e12 => ?_)
    refine j_put (pc := 12) E xuX7 tyX7 tyX7_ok nmX7 rfl s_11 rfl (k := 7) (by decide) q_180 rfl rfl (ty := .int) (by decide +kernel) rfl rfl dX7_hasRoomFor_12 e12 ?_
    refine j_goto (pc := 15) (tgt := 77) E dX7_hasRoomFor_15 (by decide) ?_
    refine JF.sub [0] rfl ?_
    exact lX7_hasRoomFor_J77 N E R m11
def fX7_highest (N : Nat) (σ : XS) (p1 : Int32) (p2 : Int32) : Option XO := if p1 = 80 then some (3, σ) else if p1 = 81 then some (9, σ) else if p1 = 82 then some (5, σ) else if p1 = 83 then some (4, σ) else if p1 = 84 then some (p2, σ) else if p1 = 85 then some (9, σ) else if p1 = 86 then some (9, σ) else if p1 = 87 then some (12, σ) else some (9, σ)
set_option maxRecDepth 100000 in
set_option maxHeartbeats 4000000 in
theorem kX7_highest {N : Nat} {σ : XS} {p1 : Int32} {p2 : Int32} {o : XO} (h : fX7_highest N σ p1 p2 = some o) : CtI yX7_highest cX7_highest 2 (some .int) 0 0 (fun Am ad => [.int p1, .int p2]) σ o := by
  refine ct_int (by decide) (fun _ _ => Nat.le_of_ble_eq_true rfl) (fun X E R => ?_)
  rw [← h]
  show JF X o 2 0 [(0, .int p1), (1, .int p2)] [] σ (if p1 = 80 then some (3, σ) else if p1 = 81 then some (9, σ) else if p1 = 82 then some (5, σ) else if p1 = 83 then some (4, σ) else if p1 = 84 then some (p2, σ) else if p1 = 85 then some (9, σ) else if p1 = 86 then some (9, σ) else if p1 = 87 then some (12, σ) else some (9, σ))
  refine j_iload_n (pc := 0) rfl 0 rfl E dX7_highest_0 ?_
  refine JF.ite (fun c1 => ?_) (fun c1 => ?_)
  · refine j_tabIn (pc := 1) (tgt := 54) E dX7_highest_1 c1 (by decide) (by decide) rfl (by decide) ?_
    refine j_iconst (pc := 54) (v := 3) (by decide) E dX7_highest_54 ?_
    exact j_iret (pc := 55) E R dX7_highest_55
  refine JF.ite (fun c2 => ?_) (fun c2 => ?_)
  · refine j_tabIn (tgt := 59) E dX7_highest_1 c2 (by decide) (by decide) rfl (by decide) ?_
    refine j_bipush (pc := 59) (v := 9) (by decide) E dX7_highest_59 ?_
    exact j_iret (pc := 61) E R dX7_highest_61
  refine JF.ite (fun c3 => ?_) (fun c3 => ?_)
  · refine j_tabIn (tgt := 52) E dX7_highest_1 c3 (by decide) (by decide) rfl (by decide) ?_
    refine j_iconst (pc := 52) (v := 5) (by decide) E dX7_highest_52 ?_
    exact j_iret (pc := 53) E R dX7_highest_53
  refine JF.ite (fun c4 => ?_) (fun c4 => ?_)
  · refine j_tabIn (tgt := 48) E dX7_highest_1 c4 (by decide) (by decide) rfl (by decide) ?_
    refine j_iconst (pc := 48) (v := 4) (by decide) E dX7_highest_48 ?_
    exact j_iret (pc := 49) E R dX7_highest_49
  refine JF.ite (fun c5 => ?_) (fun c5 => ?_)
  · refine j_tabIn (tgt := 50) E dX7_highest_1 c5 (by decide) (by decide) rfl (by decide) ?_
    refine j_iload_n (pc := 50) rfl 1 rfl E dX7_highest_50 ?_
    exact j_iret (pc := 51) E R dX7_highest_51
  refine JF.ite (fun c6 => ?_) (fun c6 => ?_)
  · refine j_tabIn (tgt := 59) E dX7_highest_1 c6 (by decide) (by decide) rfl (by decide) ?_
    refine j_bipush (pc := 59) (v := 9) (by decide) E dX7_highest_59 ?_
    exact j_iret (pc := 61) E R dX7_highest_61
  refine JF.ite (fun c7 => ?_) (fun c7 => ?_)
  · refine j_tabIn (tgt := 59) E dX7_highest_1 c7 (by decide) (by decide) rfl (by decide) ?_
    refine j_bipush (pc := 59) (v := 9) (by decide) E dX7_highest_59 ?_
    exact j_iret (pc := 61) E R dX7_highest_61
  refine JF.ite (fun c8 => ?_) (fun c8 => ?_)
  · refine j_tabIn (tgt := 56) E dX7_highest_1 c8 (by decide) (by decide) rfl (by decide) ?_
    refine j_bipush (pc := 56) (v := 12) (by decide) E dX7_highest_56 ?_
    exact j_iret (pc := 58) E R dX7_highest_58
  refine j_tabOut (tgt := 59) E dX7_highest_1 (by have := xne c1 (k := 80) (by decide); have := xne c2 (k := 81) (by decide); have := xne c3 (k := 82) (by decide); have := xne c4 (k := 83) (by decide); have := xne c5 (k := 84) (by decide); have := xne c6 (k := 85) (by decide); have := xne c7 (k := 86) (by decide); have := xne c8 (k := 87) (by decide); omega) (by decide) ?_
  refine j_bipush (pc := 59) (v := 9) (by decide) E dX7_highest_59 ?_
  exact j_iret (pc := 61) E R dX7_highest_61
def fX7_lowest (N : Nat) (σ : XS) (p1 : Int32) : Option XO := if p1 = 83 then some (1, σ) else if p1 = 84 then some (1, σ) else if p1 = 87 then some (1, σ) else some (0, σ)
set_option maxRecDepth 100000 in
set_option maxHeartbeats 4000000 in
theorem kX7_lowest {N : Nat} {σ : XS} {p1 : Int32} {o : XO} (h : fX7_lowest N σ p1 = some o) : CtI yX7_lowest cX7_lowest 1 (some .int) 0 0 (fun Am ad => [.int p1]) σ o := by
  refine ct_int (by decide) (fun _ _ => Nat.le_of_ble_eq_true rfl) (fun X E R => ?_)
  rw [← h]
  show JF X o 1 0 [(0, .int p1)] [] σ (if p1 = 83 then some (1, σ) else if p1 = 84 then some (1, σ) else if p1 = 87 then some (1, σ) else some (0, σ))
  refine j_iload_n (pc := 0) rfl 0 rfl E dX7_lowest_0 ?_
  refine j_bipush (pc := 1) (v := 83) (by decide) E dX7_lowest_1 ?_
  refine j_icmp_eq (pc := 3) (tgt := 18) E dX7_lowest_3 (by decide) ?_ ?_
  · refine j_iconst (pc := 18) (v := 1) (by decide) E dX7_lowest_18 ?_
    refine j_goto (pc := 19) (tgt := 23) E dX7_lowest_19 (by decide) ?_
    exact j_iret (pc := 23) E R dX7_lowest_23
  · refine j_iload_n (pc := 6) rfl 0 rfl E dX7_lowest_6 ?_
    refine j_bipush (pc := 7) (v := 84) (by decide) E dX7_lowest_7 ?_
    refine j_icmp_eq (pc := 9) (tgt := 18) E dX7_lowest_9 (by decide) ?_ ?_
    · refine j_iconst (pc := 18) (v := 1) (by decide) E dX7_lowest_18 ?_
      refine j_goto (pc := 19) (tgt := 23) E dX7_lowest_19 (by decide) ?_
      exact j_iret (pc := 23) E R dX7_lowest_23
    · refine j_iload_n (pc := 12) rfl 0 rfl E dX7_lowest_12 ?_
      refine j_bipush (pc := 13) (v := 87) (by decide) E dX7_lowest_13 ?_
      refine j_icmp_ne (pc := 15) (tgt := 22) E dX7_lowest_15 (by decide) ?_ ?_
      · refine j_iconst (pc := 18) (v := 1) (by decide) E dX7_lowest_18 ?_
        refine j_goto (pc := 19) (tgt := 23) E dX7_lowest_19 (by decide) ?_
        exact j_iret (pc := 23) E R dX7_lowest_23
      · refine j_iconst (pc := 22) (v := 0) (by decide) E dX7_lowest_22 ?_
        exact j_iret (pc := 23) E R dX7_lowest_23
def fX7_numberHere_L34 (N : Nat) (k62 : Int32 → XS → Option XO) : Nat → Int32 → Int32 → XS → Option XO
  | 0, _, _, _ => none
  | n + 1, v1, v2, σ => if (σ 11 6) ≤ v2 then k62 v1 σ else xB (fX7_letterAt N σ v2) (fun y4 m5 => xLetI ((v1 * 10) + (y4 - 48)) (fun x7 => fX7_numberHere_L34 N k62 n x7 (v2 + 1) m5))
set_option maxRecDepth 100000 in
set_option maxHeartbeats 4000000 in
theorem lX7_numberHere_L34 (N : Nat) (k62 : Int32 → XS → Option XO) {X : XC} {o : XO} (E : XE X cX7_numberHere RX7 3 2 43) (R : XI X o cX7_numberHere) (K62 : ∀ (v1 : Int32) (σ : XS), JF X o 3 62 [(1, .int v1)] [] σ (k62 v1 σ)) : ∀ (n : Nat) (v1 : Int32) (v2 : Int32) (σ : XS), JF X o 3 34 [(0, .ref (xa X 11)), (1, .int v1), (2, .int v2)] [] σ (fX7_numberHere_L34 N k62 n v1 v2 σ) := by
  intro n
  induction n with
  | zero => intro v1 v2 σ; exact JF.none
  | succ n ih =>
    intro v1 v2 σ
    show JF X o 3 34 [(0, .ref (xa X 11)), (1, .int v1), (2, .int v2)] [] σ (if (σ 11 6) ≤ v2 then k62 v1 σ else xB (fX7_letterAt N σ v2) (fun y4 m5 => xLetI ((v1 * 10) + (y4 - 48)) (fun x7 => fX7_numberHere_L34 N k62 n x7 (v2 + 1) m5)))
    refine j_iload_n (pc := 34) rfl 2 rfl E dX7_numberHere_34 ?_
    refine j_aload_n (pc := 35) rfl 0 rfl E dX7_numberHere_35 ?_
    refine j_get (pc := 36) E xuX7 rfl s_11 (k := 6) (by decide) q_179 rfl (xflds_int rfl) dX7_numberHere_36 ?_
    refine j_icmp_ge (pc := 39) (tgt := 62) E dX7_numberHere_39 (by decide) ?_ ?_
    · refine JF.sub [1] rfl ?_
      exact K62 v1 σ
    · refine j_iload_n (pc := 42) rfl 1 rfl E dX7_numberHere_42 ?_
      refine j_bipush (pc := 43) (v := 10) (by decide) E dX7_numberHere_43 ?_
      refine j_imul (pc := 45) E dX7_numberHere_45 ?_
      refine j_aload_n (pc := 46) rfl 0 rfl E dX7_numberHere_46 ?_
      refine j_iload_n (pc := 47) rfl 2 rfl E dX7_numberHere_47 ?_
      refine JF.xb (fun y4 m5 h6 => ?_)
      refine j_callVi (pc := 48) (st := [.int (v1 * 10)]) E (kX7_letterAt h6) mv_X7_letterAt rfl s_11 q_448 [.int v2] rfl rfl rfl (by decide) (Nat.le_of_ble_eq_true rfl) dX7_numberHere_48 ?_
      refine j_bipush (pc := 51) (v := 48) (by decide) E dX7_numberHere_51 ?_
      refine j_isub (pc := 53) E dX7_numberHere_53 ?_
      refine j_iadd (pc := 54) E dX7_numberHere_54 ?_
      refine JF.xletI (fun x7 => ?_)
      refine j_istore_n (pc := 55) (lv1 := [(1, .int x7), (0, .ref (xa X 11)), (2, .int v2)]) E dX7_numberHere_55 rfl (by decide) rfl ?_
      refine j_iinc (pc := 56) (v := (v2 + 1)) (lv1 := [(2, .int (v2 + 1)), (1, .int x7), (0, .ref (xa X 11))]) E dX7_numberHere_56 2 rfl rfl (by decide) rfl ?_
      refine j_goto (pc := 59) (tgt := 34) E dX7_numberHere_59 (by decide) ?_
      refine JF.sub [2, 1, 0] rfl ?_
      exact ih x7 (v2 + 1) m5
def fX7_numberHere (N : Nat) (σ : XS) : Option XO := xB (fX7_sortAt N σ (σ 11 5)) (fun y1 m2 => if y1 = 1 then if ((m2 11 6) - (m2 11 5)) ≤ 2 then fX7_numberHere_L34 N (fun x8 m9 => some (x8, m9)) N 0 (m2 11 5) m2 else some ((-1), m2) else some ((-1), m2))
set_option maxRecDepth 100000 in
set_option maxHeartbeats 4000000 in
theorem kX7_numberHere {N : Nat} {σ : XS} {o : XO} (h : fX7_numberHere N σ = some o) : CtI yX7_numberHere cX7_numberHere 3 (some .int) 2 43 (fun Am ad => [.ref (Am 11)]) σ o := by
  refine ct_int (by decide) (fun _ _ => Nat.le_of_ble_eq_true rfl) (fun X E R => ?_)
  rw [← h]
  show JF X o 3 0 [(0, .ref (xa X 11))] [] σ (xB (fX7_sortAt N σ (σ 11 5)) (fun y1 m2 => if y1 = 1 then if ((m2 11 6) - (m2 11 5)) ≤ 2 then fX7_numberHere_L34 N (fun x8 m9 => some (x8, m9)) N 0 (m2 11 5) m2 else some ((-1), m2) else some ((-1), m2)))
  refine j_aload_n (pc := 0) rfl 0 rfl E dX7_numberHere_0 ?_
  refine j_aload_n (pc := 1) rfl 0 rfl E dX7_numberHere_1 ?_
  refine j_get (pc := 2) E xuX7 rfl s_11 (k := 5) (by decide) q_178 rfl (xflds_int rfl) dX7_numberHere_2 ?_
  refine JF.xb (fun y1 m2 h3 => ?_)
  refine j_callVi (pc := 5) (st := []) E (kX7_sortAt h3) mv_X7_sortAt rfl s_11 q_452 [.int (σ 11 5)] rfl rfl rfl (by decide) (Nat.le_of_ble_eq_true rfl) dX7_numberHere_5 ?_
  refine j_iconst (pc := 8) (v := 1) (by decide) E dX7_numberHere_8 ?_
  refine j_icmp_ne (pc := 9) (tgt := 25) E dX7_numberHere_9 (by decide) ?_ ?_
  · refine j_aload_n (pc := 12) rfl 0 rfl E dX7_numberHere_12 ?_
    refine j_get (pc := 13) E xuX7 rfl s_11 (k := 6) (by decide) q_179 rfl (xflds_int rfl) dX7_numberHere_13 ?_
    refine j_aload_n (pc := 16) rfl 0 rfl E dX7_numberHere_16 ?_
    refine j_get (pc := 17) E xuX7 rfl s_11 (k := 5) (by decide) q_178 rfl (xflds_int rfl) dX7_numberHere_17 ?_
    refine j_isub (pc := 20) E dX7_numberHere_20 ?_
    refine j_iconst (pc := 21) (v := 2) (by decide) E dX7_numberHere_21 ?_
    refine j_icmp_le (pc := 22) (tgt := 27) E dX7_numberHere_22 (by decide) ?_ ?_
    · refine j_iconst (pc := 27) (v := 0) (by decide) E dX7_numberHere_27 ?_
      refine j_istore_n (pc := 28) (lv1 := [(1, .int 0), (0, .ref (xa X 11))]) E dX7_numberHere_28 rfl (by decide) rfl ?_
      refine j_aload_n (pc := 29) rfl 1 rfl E dX7_numberHere_29 ?_
      refine j_get (pc := 30) E xuX7 rfl s_11 (k := 5) (by decide) q_178 rfl (xflds_int rfl) dX7_numberHere_30 ?_
      refine j_istore_n (pc := 33) (lv1 := [(2, .int (m2 11 5)), (1, .int 0), (0, .ref (xa X 11))]) E dX7_numberHere_33 rfl (by decide) rfl ?_
      refine JF.sub [2, 1, 0] rfl ?_
      refine lX7_numberHere_L34 N _ E R (fun x8 m9 => ?_) N 0 (m2 11 5) m2
      · refine j_iload_n (pc := 62) rfl 0 rfl E dX7_numberHere_62 ?_
        exact j_iret (pc := 63) E R dX7_numberHere_63
    · refine j_iconst (pc := 25) (v := (-1)) (by decide) E dX7_numberHere_25 ?_
      exact j_iret (pc := 26) E R dX7_numberHere_26
  · refine j_iconst (pc := 25) (v := (-1)) (by decide) E dX7_numberHere_25 ?_
    exact j_iret (pc := 26) E R dX7_numberHere_26
def fX7_rolesIn (N : Nat) (σ : XS) (p1 : Int32) : Option XO := if 3 ≤ p1 then if p1 = 3 then some (nI 15, σ) else if 10 < p1 then if p1 = 11 then some (nI 17, σ) else if p1 = 12 then some (nI 18, σ) else some (nI 19, σ) else some (nI 16, σ) else some (nI 14, σ)
set_option maxRecDepth 100000 in
set_option maxHeartbeats 4000000 in
theorem kX7_rolesIn {N : Nat} {σ : XS} {p1 : Int32} {o : XO} (h : fX7_rolesIn N σ p1 = some o) : CtR yX7_rolesIn cX7_rolesIn 1 (some (.object "java/lang/String")) 0 0 (fun Am ad => [.int p1]) σ o := by
  refine ct_ref (by decide) (fun _ _ => Nat.le_of_ble_eq_true rfl) (fun X E R => ?_)
  rw [← h]
  show JF X o 1 0 [(0, .int p1)] [] σ (if 3 ≤ p1 then if p1 = 3 then some (nI 15, σ) else if 10 < p1 then if p1 = 11 then some (nI 17, σ) else if p1 = 12 then some (nI 18, σ) else some (nI 19, σ) else some (nI 16, σ) else some (nI 14, σ))
  refine j_iload_n (pc := 0) rfl 0 rfl E dX7_rolesIn_0 ?_
  refine j_iconst (pc := 1) (v := 3) (by decide) E dX7_rolesIn_1 ?_
  refine j_icmp_ge (pc := 2) (tgt := 8) E dX7_rolesIn_2 (by decide) ?_ ?_
  · refine j_iload_n (pc := 8) rfl 0 rfl E dX7_rolesIn_8 ?_
    refine j_iconst (pc := 9) (v := 3) (by decide) E dX7_rolesIn_9 ?_
    refine j_icmp_ne (pc := 10) (tgt := 16) E dX7_rolesIn_10 (by decide) ?_ ?_
    · refine j_ldcS (pc := 13) (k := 15) E rfl (by decide) dX7_rolesIn_13 ?_
      exact j_aret (pc := 15) E R (by decide) dX7_rolesIn_15
    · refine j_iload_n (pc := 16) rfl 0 rfl E dX7_rolesIn_16 ?_
      refine j_bipush (pc := 17) (v := 10) (by decide) E dX7_rolesIn_17 ?_
      refine j_icmp_gt (pc := 19) (tgt := 25) E dX7_rolesIn_19 (by decide) ?_ ?_
      · refine j_iload_n (pc := 25) rfl 0 rfl E dX7_rolesIn_25 ?_
        refine j_bipush (pc := 26) (v := 11) (by decide) E dX7_rolesIn_26 ?_
        refine j_icmp_ne (pc := 28) (tgt := 34) E dX7_rolesIn_28 (by decide) ?_ ?_
        · refine j_ldcS (pc := 31) (k := 17) E rfl (by decide) dX7_rolesIn_31 ?_
          exact j_aret (pc := 33) E R (by decide) dX7_rolesIn_33
        · refine j_iload_n (pc := 34) rfl 0 rfl E dX7_rolesIn_34 ?_
          refine j_bipush (pc := 35) (v := 12) (by decide) E dX7_rolesIn_35 ?_
          refine j_icmp_ne (pc := 37) (tgt := 45) E dX7_rolesIn_37 (by decide) ?_ ?_
          · refine j_ldcS (pc := 40) (k := 18) E rfl (by decide) dX7_rolesIn_40 ?_
            refine j_goto (pc := 42) (tgt := 47) E dX7_rolesIn_42 (by decide) ?_
            exact j_aret (pc := 47) E R (by decide) dX7_rolesIn_47
          · refine j_ldcS (pc := 45) (k := 19) E rfl (by decide) dX7_rolesIn_45 ?_
            exact j_aret (pc := 47) E R (by decide) dX7_rolesIn_47
      · refine j_ldcS (pc := 22) (k := 16) E rfl (by decide) dX7_rolesIn_22 ?_
        exact j_aret (pc := 24) E R (by decide) dX7_rolesIn_24
  · refine j_ldcS (pc := 5) (k := 14) E rfl (by decide) dX7_rolesIn_5 ?_
    exact j_aret (pc := 7) E R (by decide) dX7_rolesIn_7
def fX7_readClause_L47 (N : Nat) (v1 : Int32) (v3 : Nat) (k108 : XS → Option XO) (k127 : XS → Option XO) : Nat → Int32 → XS → Option XO
  | 0, _, _ => none
  | n + 1, v4, σ => gd (decide (v3 < 20)) (if (xslen v3) ≤ v4 then k127 σ else if 3 ≤ v4 then k127 σ else gd (decide (v3 < 20) && xin v4 (xlenS.getD v3 0)) (xB (fX7_goOn N σ) (fun _ m14 => xB (fX7_numberHere N m14) (fun y16 m17 => xB (fX7_lowest N m17 (xschar v3 v4)) (fun y19 m20 => if y16 < y19 then k108 m20 else gd (xin v1 14) (gd (xin 0 3) (xB (fX7_highest N m20 (xschar v3 v4) (m20 (15 + v1.toNatClampNeg) (0 : Int32).toNatClampNeg)) (fun y23 m24 => if y16 ≤ y23 then gd (xin v1 14) (xLet (xUp m24 (15 + v1.toNatClampNeg) v4.toNatClampNeg y16) (fun m27 => gd (xin v4 3) (fX7_readClause_L47 N v1 v3 k108 k127 n (v4 + 1) m27))) else k108 m24))))))))
set_option maxRecDepth 100000 in
set_option maxHeartbeats 4000000 in
theorem lX7_readClause_L47 (N : Nat) (v1 : Int32) (v3 : Nat) (k108 : XS → Option XO) (k127 : XS → Option XO) {X : XC} {o : XO} (E : XE X cX7_readClause RX7 7 6 163) (R : XZ X o cX7_readClause .boolean) (K108 : ∀ (σ : XS), JF X o 7 108 [] [] σ (k108 σ)) (K127 : ∀ (σ : XS), JF X o 7 127 [] [] σ (k127 σ)) : ∀ (n : Nat) (v4 : Int32) (σ : XS), JF X o 7 47 [(0, .ref (xa X 11)), (1, .int v1), (3, .ref (xk X v3)), (4, .int v4)] [] σ (fX7_readClause_L47 N v1 v3 k108 k127 n v4 σ) := by
  intro n
  induction n with
  | zero => intro v4 σ; exact JF.none
  | succ n ih =>
    intro v4 σ
    show JF X o 7 47 [(0, .ref (xa X 11)), (1, .int v1), (3, .ref (xk X v3)), (4, .int v4)] [] σ (gd (decide (v3 < 20)) (if (xslen v3) ≤ v4 then k127 σ else if 3 ≤ v4 then k127 σ else gd (decide (v3 < 20) && xin v4 (xlenS.getD v3 0)) (xB (fX7_goOn N σ) (fun _ m14 => xB (fX7_numberHere N m14) (fun y16 m17 => xB (fX7_lowest N m17 (xschar v3 v4)) (fun y19 m20 => if y16 < y19 then k108 m20 else gd (xin v1 14) (gd (xin 0 3) (xB (fX7_highest N m20 (xschar v3 v4) (m20 (15 + v1.toNatClampNeg) (0 : Int32).toNatClampNeg)) (fun y23 m24 => if y16 ≤ y23 then gd (xin v1 14) (xLet (xUp m24 (15 + v1.toNatClampNeg) v4.toNatClampNeg y16) (fun m27 => gd (xin v4 3) (fX7_readClause_L47 N v1 v3 k108 k127 n (v4 + 1) m27))) else k108 m24)))))))))
    refine j_iload (pc := 47) 3 rfl E dX7_readClause_47 ?_
    refine j_aload_n (pc := 49) rfl 2 rfl E dX7_readClause_49 ?_
    refine j_strlen (pc := 50) E q_485 (by decide) (Nat.le_of_ble_eq_true rfl) dX7_readClause_50 ?_
    refine j_icmp_ge (pc := 53) (tgt := 127) E dX7_readClause_53 (by decide) ?_ ?_
    · refine JF.sub [] rfl ?_
      exact K127  σ
    · refine j_iload (pc := 56) 3 rfl E dX7_readClause_56 ?_
      refine j_iconst (pc := 58) (v := 3) (by decide) E dX7_readClause_58 ?_
      refine j_icmp_ge (pc := 59) (tgt := 127) E dX7_readClause_59 (by decide) ?_ ?_
      · refine JF.sub [] rfl ?_
        exact K127  σ
      · refine j_aload_n (pc := 62) rfl 2 rfl E dX7_readClause_62 ?_
        refine j_iload (pc := 63) 3 rfl E dX7_readClause_63 ?_
        refine j_strchar (pc := 65) E q_495 (by decide) (Nat.le_of_ble_eq_true rfl) dX7_readClause_65 ?_
        refine j_istore (pc := 68) (lv1 := [(5, .int (xschar v3 v4)), (0, .ref (xa X 11)), (1, .int v1), (3, .ref (xk X v3)), (4, .int v4)]) E dX7_readClause_68 (by decide) rfl ?_
        refine j_aload_n (pc := 70) rfl 1 rfl E dX7_readClause_70 ?_
        refine JF.xb (fun y13 m14 h15 => ?_)
        refine j_callVv (pc := 71) (st := []) E (kX7_goOn h15) mv_X7_goOn rfl s_11 q_444 [] rfl rfl rfl (by decide) (Nat.le_of_ble_eq_true rfl) dX7_readClause_71 ?_
        refine j_aload_n (pc := 74) rfl 1 rfl E dX7_readClause_74 ?_
        refine JF.xb (fun y16 m17 h18 => ?_)
        refine j_callVi (pc := 75) (st := []) E (kX7_numberHere h18) mv_X7_numberHere rfl s_11 q_546 [] rfl rfl rfl (by decide) (Nat.le_of_ble_eq_true rfl) dX7_readClause_75 ?_
        refine j_istore (pc := 78) (lv1 := [(6, .int y16), (5, .int (xschar v3 v4)), (0, .ref (xa X 11)), (1, .int v1), (3, .ref (xk X v3)), (4, .int v4)]) E dX7_readClause_78 (by decide) rfl ?_
        refine j_iload (pc := 80) 0 rfl E dX7_readClause_80 ?_
        refine j_iload (pc := 82) 1 rfl E dX7_readClause_82 ?_
        refine JF.xb (fun y19 m20 h21 => ?_)
        refine j_callSi (pc := 84) (st := [.int y16]) E (kX7_lowest h21) mv_X7_lowest q_550 [.int (xschar v3 v4)] rfl rfl rfl (by decide) (Nat.le_of_ble_eq_true rfl) dX7_readClause_84 ?_
        refine j_icmp_lt (pc := 87) (tgt := 108) E dX7_readClause_87 (by decide) ?_ ?_
        · refine JF.sub [] rfl ?_
          exact K108  m20
        · refine j_iload (pc := 90) 0 rfl E dX7_readClause_90 ?_
          refine j_iload (pc := 92) 1 rfl E dX7_readClause_92 ?_
          refine j_aload_n (pc := 94) rfl 2 rfl E dX7_readClause_94 ?_
          refine j_get (pc := 95) E xuX7 rfl s_11 (k := 2) (by decide) q_173 rfl (xflds_ref rfl) dX7_readClause_95 ?_
          refine j_iload_n (pc := 98) rfl 3 rfl E dX7_readClause_98 ?_
          refine j_aald (pc := 99) (b := 15) E s_14 (by decide) dX7_readClause_99 (fun g22 => ?_)
          refine j_iconst (pc := 100) (v := 0) (by decide) E dX7_readClause_100 ?_
          refine j_iald (pc := 101) E (xg_15 _ (xin_lt g22)) dX7_readClause_101 ?_
          refine JF.xb (fun y23 m24 h25 => ?_)
          refine j_callSi (pc := 102) (st := [.int y16]) E (kX7_highest h25) mv_X7_highest q_553 [.int (xschar v3 v4), .int (m20 (15 + v1.toNatClampNeg) (0 : Int32).toNatClampNeg)] rfl rfl rfl (by decide) (Nat.le_of_ble_eq_true rfl) dX7_readClause_102 ?_
          refine j_icmp_le (pc := 105) (tgt := 110) E dX7_readClause_105 (by decide) ?_ ?_
          · refine j_aload_n (pc := 110) rfl 2 rfl E dX7_readClause_110 ?_
            refine j_get (pc := 111) E xuX7 rfl s_11 (k := 2) (by decide) q_173 rfl (xflds_ref rfl) dX7_readClause_111 ?_
            refine j_iload_n (pc := 114) rfl 3 rfl E dX7_readClause_114 ?_
            refine j_aald (pc := 115) (b := 15) E s_14 (by decide) dX7_readClause_115 (fun g26 => ?_)
            refine j_iload (pc := 116) 5 rfl E dX7_readClause_116 ?_
            refine j_iload (pc := 118) 0 rfl E dX7_readClause_118 ?_
            refine JF.xlet (fun m27 e28 => ?_)
            refine j_iast (pc := 120) E (xg_15 _ (xin_lt g26)) dX7_readClause_120 e28 ?_
            refine j_iinc (pc := 121) (v := (v4 + 1)) (lv1 := [(4, .int (v4 + 1)), (6, .int y16), (5, .int (xschar v3 v4)), (0, .ref (xa X 11)), (1, .int v1), (3, .ref (xk X v3))]) E dX7_readClause_121 5 rfl rfl (by decide) rfl ?_
            refine j_goto (pc := 124) (tgt := 47) E dX7_readClause_124 (by decide) ?_
            refine JF.sub [3, 4, 5, 0] rfl ?_
            exact ih (v4 + 1) m27
          · refine JF.sub [] rfl ?_
            exact K108  m24
def fX7_readClause (N : Nat) (σ : XS) (p1 : Int32) : Option XO := if p1 < 0 then some (0, σ) else if p1 < 14 then xB (fX7_clauseHere N σ) (fun y1 m2 => if y1 = (-1) then some (0, m2) else xB (fX7_hasRoomFor N m2 y1) (fun y4 m5 => if y4 = 0 then some (0, m5) else xLet (xUp m5 13 p1.toNatClampNeg y1) (fun m7 => gd (xin p1 14) (xB (fX7_rolesIn N m7 y1) (fun y10 m11 => fX7_readClause_L47 N p1 y10.toNatClampNeg (fun m30 => some (0, m30)) (fun m31 => some (1, m31)) N 0 m11))))) else some (0, σ)
set_option maxRecDepth 100000 in
set_option maxHeartbeats 4000000 in
theorem kX7_readClause {N : Nat} {σ : XS} {p1 : Int32} {o : XO} (h : fX7_readClause N σ p1 = some o) : CtI yX7_readClause cX7_readClause 7 (some .boolean) 6 163 (fun Am ad => [.ref (Am 11), .int p1]) σ o := by
  refine ct_z (by decide) (fun _ _ => Nat.le_of_ble_eq_true rfl) (fun X E R => ?_)
  rw [← h]
  show JF X o 7 0 [(0, .ref (xa X 11)), (1, .int p1)] [] σ (if p1 < 0 then some (0, σ) else if p1 < 14 then xB (fX7_clauseHere N σ) (fun y1 m2 => if y1 = (-1) then some (0, m2) else xB (fX7_hasRoomFor N m2 y1) (fun y4 m5 => if y4 = 0 then some (0, m5) else xLet (xUp m5 13 p1.toNatClampNeg y1) (fun m7 => gd (xin p1 14) (xB (fX7_rolesIn N m7 y1) (fun y10 m11 => fX7_readClause_L47 N p1 y10.toNatClampNeg (fun m30 => some (0, m30)) (fun m31 => some (1, m31)) N 0 m11))))) else some (0, σ))
  refine j_iload_n (pc := 0) rfl 1 rfl E dX7_readClause_0 ?_
  refine j_if_lt (pc := 1) (tgt := 10) E dX7_readClause_1 (by decide) ?_ ?_
  · refine j_iconst (pc := 10) (v := 0) (by decide) E dX7_readClause_10 ?_
    exact j_zret (pc := 11) E R rfl dX7_readClause_11
  · refine j_iload_n (pc := 4) rfl 1 rfl E dX7_readClause_4 ?_
    refine j_bipush (pc := 5) (v := 14) (by decide) E dX7_readClause_5 ?_
    refine j_icmp_lt (pc := 7) (tgt := 12) E dX7_readClause_7 (by decide) ?_ ?_
    · refine j_aload_n (pc := 12) rfl 0 rfl E dX7_readClause_12 ?_
      refine JF.xb (fun y1 m2 h3 => ?_)
      refine j_callVi (pc := 13) (st := []) E (kX7_clauseHere h3) mv_X7_clauseHere rfl s_11 q_460 [] rfl rfl rfl (by decide) (Nat.le_of_ble_eq_true rfl) dX7_readClause_13 ?_
      refine j_istore_n (pc := 16) (lv1 := [(2, .int y1), (0, .ref (xa X 11)), (1, .int p1)]) E dX7_readClause_16 rfl (by decide) rfl ?_
      refine j_iload_n (pc := 17) rfl 0 rfl E dX7_readClause_17 ?_
      refine j_iconst (pc := 18) (v := (-1)) (by decide) E dX7_readClause_18 ?_
      refine j_icmp_eq (pc := 19) (tgt := 30) E dX7_readClause_19 (by decide) ?_ ?_
      · refine j_iconst (pc := 30) (v := 0) (by decide) E dX7_readClause_30 ?_
        exact j_zret (pc := 31) E R rfl dX7_readClause_31
      · refine j_aload_n (pc := 22) rfl 1 rfl E dX7_readClause_22 ?_
        refine j_iload_n (pc := 23) rfl 0 rfl E dX7_readClause_23 ?_
        refine JF.xb (fun y4 m5 h6 => ?_)
        refine j_callVi (pc := 24) (st := []) E (kX7_hasRoomFor h6) mv_X7_hasRoomFor rfl s_11 q_533 [.int y1] rfl rfl rfl (by decide) (Nat.le_of_ble_eq_true rfl) dX7_readClause_24 ?_
        refine j_if_ne (pc := 27) (tgt := 32) E dX7_readClause_27 (by decide) ?_ ?_
        · refine j_iconst (pc := 30) (v := 0) (by decide) E dX7_readClause_30 ?_
          exact j_zret (pc := 31) E R rfl dX7_readClause_31
        · refine j_aload_n (pc := 32) rfl 1 rfl E dX7_readClause_32 ?_
          refine j_get (pc := 33) E xuX7 rfl s_11 (k := 1) (by decide) q_172 rfl (xflds_ref rfl) dX7_readClause_33 ?_
          refine j_iload_n (pc := 36) rfl 2 rfl E dX7_readClause_36 ?_
          refine j_iload_n (pc := 37) rfl 0 rfl E dX7_readClause_37 ?_
          refine JF.xlet (fun m7 e8 => ?_)
          refine j_iast (pc := 38) E s_13 dX7_readClause_38 e8 ?_
          refine j_iload_n (pc := 39) rfl 0 rfl E dX7_readClause_39 ?_
          refine JF.xb (fun y10 m11 h12 => ?_)
          refine j_callSr (pc := 40) (st := []) E (kX7_rolesIn h12) mv_X7_rolesIn q_537 [.int y1] rfl rfl rfl (by decide) (Nat.le_of_ble_eq_true rfl) dX7_readClause_40 ?_
          refine j_astore_n (pc := 43) (lv1 := [(3, .ref (xk X y10.toNatClampNeg)), (2, .int y1), (0, .ref (xa X 11)), (1, .int p1)]) E dX7_readClause_43 rfl (by decide) rfl ?_
          refine j_iconst (pc := 44) (v := 0) (by decide) E dX7_readClause_44 ?_
          refine j_istore (pc := 45) (lv1 := [(4, .int 0), (3, .ref (xk X y10.toNatClampNeg)), (2, .int y1), (0, .ref (xa X 11)), (1, .int p1)]) E dX7_readClause_45 (by decide) rfl ?_
          refine JF.sub [3, 4, 1, 0] rfl ?_
          refine lX7_readClause_L47 N p1 y10.toNatClampNeg _ _ E R (fun m30 => ?_) (fun m31 => ?_) N 0 m11
          · refine j_iconst (pc := 108) (v := 0) (by decide) E dX7_readClause_108 ?_
            exact j_zret (pc := 109) E R rfl dX7_readClause_109
          · refine j_iconst (pc := 127) (v := 1) (by decide) E dX7_readClause_127 ?_
            exact j_zret (pc := 128) E R rfl dX7_readClause_128
    · refine j_iconst (pc := 10) (v := 0) (by decide) E dX7_readClause_10 ?_
      exact j_zret (pc := 11) E R rfl dX7_readClause_11
