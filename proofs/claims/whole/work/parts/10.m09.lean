def fX10_clerkAs_J75 (N : Nat) (v3 : Int32) (t0 : Int32) (σ : XS) : Option XO := if t0 = 0 then some ((-4), σ) else xB (fX10_countedBy N σ v3 90 (σ 85 6)) (fun y8 m9 => some (y8, m9))
set_option maxRecDepth 100000 in
set_option maxHeartbeats 4000000 in
theorem lX10_clerkAs_J75 (N : Nat) (v3 : Int32) (t0 : Int32) {X : XC} {o : XO} (E : XE X cX10_clerkAs RX10 5 3 70) (R : XI X o cX10_clerkAs) (σ : XS) : JF X o 5 75 [(0, .ref (xa X 85)), (3, .int v3)] [.int t0] σ (fX10_clerkAs_J75 N v3 t0 σ) := by
  show JF X o 5 75 [(0, .ref (xa X 85)), (3, .int v3)] [.int t0] σ (if t0 = 0 then some ((-4), σ) else xB (fX10_countedBy N σ v3 90 (σ 85 6)) (fun y8 m9 => some (y8, m9)))
  refine j_istore (pc := 75) (lv1 := [(4, .int t0), (0, .ref (xa X 85)), (3, .int v3)]) E dX10_clerkAs_75 (by decide) rfl ?_
  refine j_iload (pc := 77) 0 rfl E dX10_clerkAs_77 ?_
  refine j_if_eq (pc := 79) (tgt := 98) E dX10_clerkAs_79 (by decide) ?_ ?_
  · refine j_bipush (pc := 98) (v := (-4)) (by decide) E dX10_clerkAs_98 ?_
    exact j_iret (pc := 100) E R dX10_clerkAs_100
  · refine j_aload_n (pc := 82) rfl 1 rfl E dX10_clerkAs_82 ?_
    refine j_iload_n (pc := 83) rfl 2 rfl E dX10_clerkAs_83 ?_
    refine j_aload_n (pc := 84) rfl 1 rfl E dX10_clerkAs_84 ?_
    refine j_get (pc := 85) E xuX10 rfl s_85 (k := 5) (by decide) q_1087 rfl (xflds_ref rfl) dX10_clerkAs_85 ?_
    refine j_aload_n (pc := 88) rfl 1 rfl E dX10_clerkAs_88 ?_
    refine j_get (pc := 89) E xuX10 rfl s_85 (k := 6) (by decide) q_1088 rfl (xflds_int rfl) dX10_clerkAs_89 ?_
    refine JF.xb (fun y8 m9 h10 => ?_)
    refine j_callVi (pc := 92) (st := []) E (kX10_countedBy xr_90 h10) mv_X10_countedBy rfl s_85 q_1277 [.int v3, .ref (xa X 90), .int (σ 85 6)] rfl rfl rfl (by decide) (Nat.le_of_ble_eq_true rfl) dX10_clerkAs_92 ?_
    refine j_goto (pc := 95) (tgt := 100) E dX10_clerkAs_95 (by decide) ?_
    exact j_iret (pc := 100) E R dX10_clerkAs_100
def fX10_clerkAs_J70 (N : Nat) (v3 : Int32) (σ : XS) : Option XO := fX10_clerkAs_J75 N v3 1 σ
set_option maxRecDepth 100000 in
set_option maxHeartbeats 4000000 in
theorem lX10_clerkAs_J70 (N : Nat) (v3 : Int32) {X : XC} {o : XO} (E : XE X cX10_clerkAs RX10 5 3 70) (R : XI X o cX10_clerkAs) (σ : XS) : JF X o 5 70 [(0, .ref (xa X 85)), (3, .int v3)] [] σ (fX10_clerkAs_J70 N v3 σ) := by
  show JF X o 5 70 [(0, .ref (xa X 85)), (3, .int v3)] [] σ (fX10_clerkAs_J75 N v3 1 σ)
  refine j_iconst (pc := 70) (v := 1) (by decide) E dX10_clerkAs_70 ?_
  refine j_goto (pc := 71) (tgt := 75) E dX10_clerkAs_71 (by decide) ?_
  refine JF.sub [0, 1] rfl ?_
  exact lX10_clerkAs_J75 N v3 1 E R σ
def fX10_clerkAs_J74 (N : Nat) (v3 : Int32) (σ : XS) : Option XO := fX10_clerkAs_J75 N v3 0 σ
set_option maxRecDepth 100000 in
set_option maxHeartbeats 4000000 in
theorem lX10_clerkAs_J74 (N : Nat) (v3 : Int32) {X : XC} {o : XO} (E : XE X cX10_clerkAs RX10 5 3 70) (R : XI X o cX10_clerkAs) (σ : XS) : JF X o 5 74 [(0, .ref (xa X 85)), (3, .int v3)] [] σ (fX10_clerkAs_J74 N v3 σ) := by
  show JF X o 5 74 [(0, .ref (xa X 85)), (3, .int v3)] [] σ (fX10_clerkAs_J75 N v3 0 σ)
  refine j_iconst (pc := 74) (v := 0) (by decide) E dX10_clerkAs_74 ?_
  refine JF.sub [0, 1] rfl ?_
  exact lX10_clerkAs_J75 N v3 0 E R σ
def fX10_clerkAs_J60 (N : Nat) (v2 : Int32) (v3 : Int32) (σ : XS) : Option XO := if v2 = 3 then if v3 = 2 then fX10_clerkAs_J70 N v3 σ else fX10_clerkAs_J74 N v3 σ else fX10_clerkAs_J74 N v3 σ
set_option maxRecDepth 100000 in
set_option maxHeartbeats 4000000 in
theorem lX10_clerkAs_J60 (N : Nat) (v2 : Int32) (v3 : Int32) {X : XC} {o : XO} (E : XE X cX10_clerkAs RX10 5 3 70) (R : XI X o cX10_clerkAs) (σ : XS) : JF X o 5 60 [(0, .ref (xa X 85)), (2, .int v2), (3, .int v3)] [] σ (fX10_clerkAs_J60 N v2 v3 σ) := by
  show JF X o 5 60 [(0, .ref (xa X 85)), (2, .int v2), (3, .int v3)] [] σ (if v2 = 3 then if v3 = 2 then fX10_clerkAs_J70 N v3 σ else fX10_clerkAs_J74 N v3 σ else fX10_clerkAs_J74 N v3 σ)
  refine j_iload_n (pc := 60) rfl 1 rfl E dX10_clerkAs_60 ?_
  refine j_iconst (pc := 61) (v := 3) (by decide) E dX10_clerkAs_61 ?_
  refine j_icmp_ne (pc := 62) (tgt := 74) E dX10_clerkAs_62 (by decide) ?_ ?_
  · refine j_iload_n (pc := 65) rfl 2 rfl E dX10_clerkAs_65 ?_
    refine j_iconst (pc := 66) (v := 2) (by decide) E dX10_clerkAs_66 ?_
    refine j_icmp_ne (pc := 67) (tgt := 74) E dX10_clerkAs_67 (by decide) ?_ ?_
    · refine JF.sub [0, 2] rfl ?_
      exact lX10_clerkAs_J70 N v3 E R σ
    · refine JF.sub [0, 2] rfl ?_
      exact lX10_clerkAs_J74 N v3 E R σ
  · refine JF.sub [0, 2] rfl ?_
    exact lX10_clerkAs_J74 N v3 E R σ
def fX10_clerkAs_J50 (N : Nat) (v2 : Int32) (v3 : Int32) (σ : XS) : Option XO := if v2 = 2 then if v3 = 1 then fX10_clerkAs_J70 N v3 σ else fX10_clerkAs_J60 N v2 v3 σ else fX10_clerkAs_J60 N v2 v3 σ
set_option maxRecDepth 100000 in
set_option maxHeartbeats 4000000 in
theorem lX10_clerkAs_J50 (N : Nat) (v2 : Int32) (v3 : Int32) {X : XC} {o : XO} (E : XE X cX10_clerkAs RX10 5 3 70) (R : XI X o cX10_clerkAs) (σ : XS) : JF X o 5 50 [(0, .ref (xa X 85)), (2, .int v2), (3, .int v3)] [] σ (fX10_clerkAs_J50 N v2 v3 σ) := by
  show JF X o 5 50 [(0, .ref (xa X 85)), (2, .int v2), (3, .int v3)] [] σ (if v2 = 2 then if v3 = 1 then fX10_clerkAs_J70 N v3 σ else fX10_clerkAs_J60 N v2 v3 σ else fX10_clerkAs_J60 N v2 v3 σ)
  refine j_iload_n (pc := 50) rfl 1 rfl E dX10_clerkAs_50 ?_
  refine j_iconst (pc := 51) (v := 2) (by decide) E dX10_clerkAs_51 ?_
  refine j_icmp_ne (pc := 52) (tgt := 60) E dX10_clerkAs_52 (by decide) ?_ ?_
  · refine j_iload_n (pc := 55) rfl 2 rfl E dX10_clerkAs_55 ?_
    refine j_iconst (pc := 56) (v := 1) (by decide) E dX10_clerkAs_56 ?_
    refine j_icmp_eq (pc := 57) (tgt := 70) E dX10_clerkAs_57 (by decide) ?_ ?_
    · refine JF.sub [0, 2] rfl ?_
      exact lX10_clerkAs_J70 N v3 E R σ
    · refine JF.sub [0, 1, 2] rfl ?_
      exact lX10_clerkAs_J60 N v2 v3 E R σ
  · refine JF.sub [0, 1, 2] rfl ?_
    exact lX10_clerkAs_J60 N v2 v3 E R σ
def fX10_clerkAs (N : Nat) (σ : XS) (p1 : Int32) (p2 : Int32) : Option XO := xB (fX10_isClerk N σ p1) (fun y1 m2 => if y1 = 0 then some ((-2), m2) else xB (fX10_in N m2 p2.toInt64 0 3) (fun y4 m5 => if y4 = 0 then some ((-3), m5) else gd (xin (64 + p1) 98) (xLetI (m5 86 (64 + p1).toNatClampNeg) (fun x7 => if p2 = 0 then fX10_clerkAs_J70 N x7 m5 else if p2 = 1 then if x7 = 1 then fX10_clerkAs_J50 N p2 x7 m5 else fX10_clerkAs_J70 N x7 m5 else fX10_clerkAs_J50 N p2 x7 m5))))
set_option maxRecDepth 100000 in
set_option maxHeartbeats 4000000 in
theorem kX10_clerkAs {N : Nat} {σ : XS} {p1 : Int32} {p2 : Int32} {o : XO} (h : fX10_clerkAs N σ p1 p2 = some o) : CtI yX10_clerkAs cX10_clerkAs 5 (some .int) 3 70 (fun Am ad => [.ref (Am 85), .int p1, .int p2]) σ o := by
  refine ct_int (by decide) (fun _ _ => Nat.le_of_ble_eq_true rfl) (fun X E R => ?_)
  rw [← h]
  show JF X o 5 0 [(0, .ref (xa X 85)), (1, .int p1), (2, .int p2)] [] σ (xB (fX10_isClerk N σ p1) (fun y1 m2 => if y1 = 0 then some ((-2), m2) else xB (fX10_in N m2 p2.toInt64 0 3) (fun y4 m5 => if y4 = 0 then some ((-3), m5) else gd (xin (64 + p1) 98) (xLetI (m5 86 (64 + p1).toNatClampNeg) (fun x7 => if p2 = 0 then fX10_clerkAs_J70 N x7 m5 else if p2 = 1 then if x7 = 1 then fX10_clerkAs_J50 N p2 x7 m5 else fX10_clerkAs_J70 N x7 m5 else fX10_clerkAs_J50 N p2 x7 m5)))))
  refine j_aload_n (pc := 0) rfl 0 rfl E dX10_clerkAs_0 ?_
  refine j_iload_n (pc := 1) rfl 1 rfl E dX10_clerkAs_1 ?_
  refine JF.xb (fun y1 m2 h3 => ?_)
  refine j_callVi (pc := 2) (st := []) E (kX10_isClerk h3) mv_X10_isClerk rfl s_85 q_1251 [.int p1] rfl rfl rfl (by decide) (Nat.le_of_ble_eq_true rfl) dX10_clerkAs_2 ?_
  refine j_if_ne (pc := 5) (tgt := 11) E dX10_clerkAs_5 (by decide) ?_ ?_
  · refine j_bipush (pc := 8) (v := (-2)) (by decide) E dX10_clerkAs_8 ?_
    exact j_iret (pc := 10) E R dX10_clerkAs_10
  · refine j_iload_n (pc := 11) rfl 2 rfl E dX10_clerkAs_11 ?_
    refine j_i2l (pc := 12) E dX10_clerkAs_12 ?_
    refine j_lconst (pc := 13) (v := 0) (by decide) E dX10_clerkAs_13 ?_
    refine j_ldc2 (pc := 14) (v := 3) E q_1237 dX10_clerkAs_14 ?_
    refine JF.xb (fun y4 m5 h6 => ?_)
    refine j_callSi (pc := 17) (st := []) E (kX10_in h6) mv_X10_in q_1079 [.long p2.toInt64, .long 0, .long 3] rfl rfl rfl (by decide) (Nat.le_of_ble_eq_true rfl) dX10_clerkAs_17 ?_
    refine j_if_ne (pc := 20) (tgt := 26) E dX10_clerkAs_20 (by decide) ?_ ?_
    · refine j_bipush (pc := 23) (v := (-3)) (by decide) E dX10_clerkAs_23 ?_
      exact j_iret (pc := 25) E R dX10_clerkAs_25
    · refine j_aload_n (pc := 26) rfl 0 rfl E dX10_clerkAs_26 ?_
      refine j_get (pc := 27) E xuX10 rfl s_85 (k := 0) (by decide) q_1082 rfl (xflds_ref rfl) dX10_clerkAs_27 ?_
      refine j_bipush (pc := 30) (v := 64) (by decide) E dX10_clerkAs_30 ?_
      refine j_iload_n (pc := 32) rfl 1 rfl E dX10_clerkAs_32 ?_
      refine j_iadd (pc := 33) E dX10_clerkAs_33 ?_
      refine j_iald (pc := 34) E s_86 dX10_clerkAs_34 ?_
      refine JF.xletI (fun x7 => ?_)
      refine j_istore_n (pc := 35) (lv1 := [(3, .int x7), (0, .ref (xa X 85)), (1, .int p1), (2, .int p2)]) E dX10_clerkAs_35 rfl (by decide) rfl ?_
      refine j_iload_n (pc := 36) rfl 3 rfl E dX10_clerkAs_36 ?_
      refine j_if_eq (pc := 37) (tgt := 70) E dX10_clerkAs_37 (by decide) ?_ ?_
      · refine JF.sub [1, 0] rfl ?_
        exact lX10_clerkAs_J70 N x7 E R m5
      · refine j_iload_n (pc := 40) rfl 3 rfl E dX10_clerkAs_40 ?_
        refine j_iconst (pc := 41) (v := 1) (by decide) E dX10_clerkAs_41 ?_
        refine j_icmp_ne (pc := 42) (tgt := 50) E dX10_clerkAs_42 (by decide) ?_ ?_
        · refine j_iload_n (pc := 45) rfl 0 rfl E dX10_clerkAs_45 ?_
          refine j_iconst (pc := 46) (v := 1) (by decide) E dX10_clerkAs_46 ?_
          refine j_icmp_ne (pc := 47) (tgt := 70) E dX10_clerkAs_47 (by decide) ?_ ?_
          · refine JF.sub [1, 3, 0] rfl ?_
            exact lX10_clerkAs_J50 N p2 x7 E R m5
          · refine JF.sub [1, 0] rfl ?_
            exact lX10_clerkAs_J70 N x7 E R m5
        · refine JF.sub [1, 3, 0] rfl ?_
          exact lX10_clerkAs_J50 N p2 x7 E R m5
def fX10_isScanned_J94 (N : Nat) (v2 : Int32) (v3 : Int32) (v5 : Int32) (r1 : Nat) (k8 : Int32 → Int32 → Int32 → XS → Option XO) (σ : XS) : Option XO := gd (xin v5 (xlen r1)) (xB (fX10_syllables N σ (σ r1 v5.toNatClampNeg)) (fun y5 m6 => k8 (v3 + y5) 1 (v5 + 1) m6))
set_option maxRecDepth 100000 in
set_option maxHeartbeats 4000000 in
theorem lX10_isScanned_J94 (N : Nat) (v2 : Int32) (v3 : Int32) (v5 : Int32) (r1 : Nat) (k8 : Int32 → Int32 → Int32 → XS → Option XO) {X : XC} {o : XO} (E : XE X cX10_isScanned RX10 8 1 21) (R : XZ X o cX10_isScanned .boolean) (hr1 : xRow r1) (K8 : ∀ (v3 : Int32) (v4 : Int32) (v5 : Int32) (σ : XS), JF X o 8 8 [(0, .ref (xa X 85)), (1, .ref (xa X r1)), (2, .int v2), (3, .int v3), (4, .int v4), (5, .int v5)] [] σ (k8 v3 v4 v5 σ)) (σ : XS) : JF X o 8 94 [(0, .ref (xa X 85)), (1, .ref (xa X r1)), (2, .int v2), (3, .int v3), (5, .int v5)] [] σ (fX10_isScanned_J94 N v2 v3 v5 r1 k8 σ) := by
  show JF X o 8 94 [(0, .ref (xa X 85)), (1, .ref (xa X r1)), (2, .int v2), (3, .int v3), (5, .int v5)] [] σ (gd (xin v5 (xlen r1)) (xB (fX10_syllables N σ (σ r1 v5.toNatClampNeg)) (fun y5 m6 => k8 (v3 + y5) 1 (v5 + 1) m6)))
  refine j_iconst (pc := 94) (v := 1) (by decide) E dX10_isScanned_94 ?_
  refine j_goto (pc := 95) (tgt := 99) E dX10_isScanned_95 (by decide) ?_
  refine j_istore (pc := 99) (lv1 := [(4, .int 1), (0, .ref (xa X 85)), (1, .ref (xa X r1)), (2, .int v2), (3, .int v3), (5, .int v5)]) E dX10_isScanned_99 (by decide) rfl ?_
  refine j_iload_n (pc := 101) rfl 4 rfl E dX10_isScanned_101 ?_
  refine j_aload_n (pc := 102) rfl 1 rfl E dX10_isScanned_102 ?_
  refine j_aload_n (pc := 103) rfl 2 rfl E dX10_isScanned_103 ?_
  refine j_iload (pc := 104) 5 rfl E dX10_isScanned_104 ?_
  refine j_iald (pc := 106) E hr1 dX10_isScanned_106 ?_
  refine JF.xb (fun y5 m6 h7 => ?_)
  refine j_callVi (pc := 107) (st := [.int v3]) E (kX10_syllables h7) mv_X10_syllables rfl s_85 q_1285 [.int (σ r1 v5.toNatClampNeg)] rfl rfl rfl (by decide) (Nat.le_of_ble_eq_true rfl) dX10_isScanned_107 ?_
  refine j_iadd (pc := 110) E dX10_isScanned_110 ?_
  refine j_istore_n (pc := 111) (lv1 := [(3, .int (v3 + y5)), (4, .int 1), (0, .ref (xa X 85)), (1, .ref (xa X r1)), (2, .int v2), (5, .int v5)]) E dX10_isScanned_111 rfl (by decide) rfl ?_
  refine j_iinc (pc := 112) (v := (v5 + 1)) (lv1 := [(5, .int (v5 + 1)), (3, .int (v3 + y5)), (4, .int 1), (0, .ref (xa X 85)), (1, .ref (xa X r1)), (2, .int v2)]) E dX10_isScanned_112 5 rfl rfl (by decide) rfl ?_
  refine j_goto (pc := 115) (tgt := 8) E dX10_isScanned_115 (by decide) ?_
  refine JF.sub [3, 4, 5, 1, 2, 0] rfl ?_
  exact K8 (v3 + y5) 1 (v5 + 1) m6
def fX10_isScanned_J91 (N : Nat) (v2 : Int32) (v3 : Int32) (v5 : Int32) (t0 : Int32) (t1 : Int32) (r1 : Nat) (k8 : Int32 → Int32 → Int32 → XS → Option XO) (σ : XS) : Option XO := if t1 = t0 then fX10_isScanned_J94 N v2 v3 v5 r1 k8 σ else gd (xin v5 (xlen r1)) (xB (fX10_syllables N σ (σ r1 v5.toNatClampNeg)) (fun y11 m12 => k8 (v3 + y11) 0 (v5 + 1) m12))
set_option maxRecDepth 100000 in
set_option maxHeartbeats 4000000 in
theorem lX10_isScanned_J91 (N : Nat) (v2 : Int32) (v3 : Int32) (v5 : Int32) (t0 : Int32) (t1 : Int32) (r1 : Nat) (k8 : Int32 → Int32 → Int32 → XS → Option XO) {X : XC} {o : XO} (E : XE X cX10_isScanned RX10 8 1 21) (R : XZ X o cX10_isScanned .boolean) (hr1 : xRow r1) (K8 : ∀ (v3 : Int32) (v4 : Int32) (v5 : Int32) (σ : XS), JF X o 8 8 [(0, .ref (xa X 85)), (1, .ref (xa X r1)), (2, .int v2), (3, .int v3), (4, .int v4), (5, .int v5)] [] σ (k8 v3 v4 v5 σ)) (σ : XS) : JF X o 8 91 [(0, .ref (xa X 85)), (1, .ref (xa X r1)), (2, .int v2), (3, .int v3), (5, .int v5)] [.int t0, .int t1] σ (fX10_isScanned_J91 N v2 v3 v5 t0 t1 r1 k8 σ) := by
  show JF X o 8 91 [(0, .ref (xa X 85)), (1, .ref (xa X r1)), (2, .int v2), (3, .int v3), (5, .int v5)] [.int t0, .int t1] σ (if t1 = t0 then fX10_isScanned_J94 N v2 v3 v5 r1 k8 σ else gd (xin v5 (xlen r1)) (xB (fX10_syllables N σ (σ r1 v5.toNatClampNeg)) (fun y11 m12 => k8 (v3 + y11) 0 (v5 + 1) m12)))
  refine j_icmp_ne (pc := 91) (tgt := 98) E dX10_isScanned_91 (by decide) ?_ ?_
  · refine JF.sub [0, 1, 2, 3, 4] rfl ?_
    exact lX10_isScanned_J94 N v2 v3 v5 r1 k8 E R hr1 K8 σ
  · refine j_iconst (pc := 98) (v := 0) (by decide) E dX10_isScanned_98 ?_
    refine j_istore (pc := 99) (lv1 := [(4, .int 0), (0, .ref (xa X 85)), (1, .ref (xa X r1)), (2, .int v2), (3, .int v3), (5, .int v5)]) E dX10_isScanned_99 (by decide) rfl ?_
    refine j_iload_n (pc := 101) rfl 4 rfl E dX10_isScanned_101 ?_
    refine j_aload_n (pc := 102) rfl 1 rfl E dX10_isScanned_102 ?_
    refine j_aload_n (pc := 103) rfl 2 rfl E dX10_isScanned_103 ?_
    refine j_iload (pc := 104) 5 rfl E dX10_isScanned_104 ?_
    refine j_iald (pc := 106) E hr1 dX10_isScanned_106 ?_
    refine JF.xb (fun y11 m12 h13 => ?_)
    refine j_callVi (pc := 107) (st := [.int v3]) E (kX10_syllables h13) mv_X10_syllables rfl s_85 q_1285 [.int (σ r1 v5.toNatClampNeg)] rfl rfl rfl (by decide) (Nat.le_of_ble_eq_true rfl) dX10_isScanned_107 ?_
    refine j_iadd (pc := 110) E dX10_isScanned_110 ?_
    refine j_istore_n (pc := 111) (lv1 := [(3, .int (v3 + y11)), (4, .int 0), (0, .ref (xa X 85)), (1, .ref (xa X r1)), (2, .int v2), (5, .int v5)]) E dX10_isScanned_111 rfl (by decide) rfl ?_
    refine j_iinc (pc := 112) (v := (v5 + 1)) (lv1 := [(5, .int (v5 + 1)), (3, .int (v3 + y11)), (4, .int 0), (0, .ref (xa X 85)), (1, .ref (xa X r1)), (2, .int v2)]) E dX10_isScanned_112 5 rfl rfl (by decide) rfl ?_
    refine j_goto (pc := 115) (tgt := 8) E dX10_isScanned_115 (by decide) ?_
    refine JF.sub [3, 4, 5, 1, 2, 0] rfl ?_
    exact K8 (v3 + y11) 0 (v5 + 1) m12
def fX10_isScanned_J46 (N : Nat) (v2 : Int32) (v3 : Int32) (v4 : Int32) (v5 : Int32) (t0 : Int32) (r1 : Nat) (k8 : Int32 → Int32 → Int32 → XS → Option XO) (σ : XS) : Option XO := if v4 = 0 then gd (xin v5 (xlen r1)) (xB (fX10_syllables N σ (σ r1 v5.toNatClampNeg)) (fun y2 m3 => k8 (v3 + y2) 0 (v5 + 1) m3)) else gd (xin 3 98) (if (σ 86 (3 : Int32).toNatClampNeg) = 0 then fX10_isScanned_J94 N v2 v3 v5 r1 k8 σ else gd (xin v5 (xlen r1)) (xB (fX10_kindOf N σ (σ r1 v5.toNatClampNeg)) (fun y8 m9 => if y8 = 3 then fX10_isScanned_J94 N v2 v3 v5 r1 k8 m9 else gd (xin 3 98) (if (m9 86 (3 : Int32).toNatClampNeg) = 1 then fX10_isScanned_J91 N v2 v3 v5 1 t0 r1 k8 m9 else fX10_isScanned_J91 N v2 v3 v5 0 t0 r1 k8 m9))))
set_option maxRecDepth 100000 in
set_option maxHeartbeats 4000000 in
theorem lX10_isScanned_J46 (N : Nat) (v2 : Int32) (v3 : Int32) (v4 : Int32) (v5 : Int32) (t0 : Int32) (r1 : Nat) (k8 : Int32 → Int32 → Int32 → XS → Option XO) {X : XC} {o : XO} (E : XE X cX10_isScanned RX10 8 1 21) (R : XZ X o cX10_isScanned .boolean) (hr1 : xRow r1) (K8 : ∀ (v3 : Int32) (v4 : Int32) (v5 : Int32) (σ : XS), JF X o 8 8 [(0, .ref (xa X 85)), (1, .ref (xa X r1)), (2, .int v2), (3, .int v3), (4, .int v4), (5, .int v5)] [] σ (k8 v3 v4 v5 σ)) (σ : XS) : JF X o 8 46 [(0, .ref (xa X 85)), (1, .ref (xa X r1)), (2, .int v2), (3, .int v3), (4, .int v4), (5, .int v5)] [.int t0] σ (fX10_isScanned_J46 N v2 v3 v4 v5 t0 r1 k8 σ) := by
  show JF X o 8 46 [(0, .ref (xa X 85)), (1, .ref (xa X r1)), (2, .int v2), (3, .int v3), (4, .int v4), (5, .int v5)] [.int t0] σ (if v4 = 0 then gd (xin v5 (xlen r1)) (xB (fX10_syllables N σ (σ r1 v5.toNatClampNeg)) (fun y2 m3 => k8 (v3 + y2) 0 (v5 + 1) m3)) else gd (xin 3 98) (if (σ 86 (3 : Int32).toNatClampNeg) = 0 then fX10_isScanned_J94 N v2 v3 v5 r1 k8 σ else gd (xin v5 (xlen r1)) (xB (fX10_kindOf N σ (σ r1 v5.toNatClampNeg)) (fun y8 m9 => if y8 = 3 then fX10_isScanned_J94 N v2 v3 v5 r1 k8 m9 else gd (xin 3 98) (if (m9 86 (3 : Int32).toNatClampNeg) = 1 then fX10_isScanned_J91 N v2 v3 v5 1 t0 r1 k8 m9 else fX10_isScanned_J91 N v2 v3 v5 0 t0 r1 k8 m9)))))
  refine j_istore (pc := 46) (lv1 := [(7, .int t0), (0, .ref (xa X 85)), (1, .ref (xa X r1)), (2, .int v2), (3, .int v3), (4, .int v4), (5, .int v5)]) E dX10_isScanned_46 (by decide) rfl ?_
  refine j_iload (pc := 48) 5 rfl E dX10_isScanned_48 ?_
  refine j_if_eq (pc := 50) (tgt := 98) E dX10_isScanned_50 (by decide) ?_ ?_
  · refine j_iconst (pc := 98) (v := 0) (by decide) E dX10_isScanned_98 ?_
    refine j_istore (pc := 99) (lv1 := [(4, .int 0), (7, .int t0), (0, .ref (xa X 85)), (1, .ref (xa X r1)), (2, .int v2), (3, .int v3), (5, .int v5)]) E dX10_isScanned_99 (by decide) rfl ?_
    refine j_iload_n (pc := 101) rfl 5 rfl E dX10_isScanned_101 ?_
    refine j_aload_n (pc := 102) rfl 2 rfl E dX10_isScanned_102 ?_
    refine j_aload_n (pc := 103) rfl 3 rfl E dX10_isScanned_103 ?_
    refine j_iload (pc := 104) 6 rfl E dX10_isScanned_104 ?_
    refine j_iald (pc := 106) E hr1 dX10_isScanned_106 ?_
    refine JF.xb (fun y2 m3 h4 => ?_)
    refine j_callVi (pc := 107) (st := [.int v3]) E (kX10_syllables h4) mv_X10_syllables rfl s_85 q_1285 [.int (σ r1 v5.toNatClampNeg)] rfl rfl rfl (by decide) (Nat.le_of_ble_eq_true rfl) dX10_isScanned_107 ?_
    refine j_iadd (pc := 110) E dX10_isScanned_110 ?_
    refine j_istore_n (pc := 111) (lv1 := [(3, .int (v3 + y2)), (4, .int 0), (7, .int t0), (0, .ref (xa X 85)), (1, .ref (xa X r1)), (2, .int v2), (5, .int v5)]) E dX10_isScanned_111 rfl (by decide) rfl ?_
    refine j_iinc (pc := 112) (v := (v5 + 1)) (lv1 := [(5, .int (v5 + 1)), (3, .int (v3 + y2)), (4, .int 0), (7, .int t0), (0, .ref (xa X 85)), (1, .ref (xa X r1)), (2, .int v2)]) E dX10_isScanned_112 6 rfl rfl (by decide) rfl ?_
    refine j_goto (pc := 115) (tgt := 8) E dX10_isScanned_115 (by decide) ?_
    refine JF.sub [4, 5, 6, 1, 2, 0] rfl ?_
    exact K8 (v3 + y2) 0 (v5 + 1) m3
  · refine j_aload_n (pc := 53) rfl 1 rfl E dX10_isScanned_53 ?_
    refine j_get (pc := 54) E xuX10 rfl s_85 (k := 0) (by decide) q_1082 rfl (xflds_ref rfl) dX10_isScanned_54 ?_
    refine j_iconst (pc := 57) (v := 3) (by decide) E dX10_isScanned_57 ?_
    refine j_iald (pc := 58) E s_86 dX10_isScanned_58 ?_
    refine j_if_eq (pc := 59) (tgt := 94) E dX10_isScanned_59 (by decide) ?_ ?_
    · refine JF.sub [1, 2, 3, 4, 6] rfl ?_
      exact lX10_isScanned_J94 N v2 v3 v5 r1 k8 E R hr1 K8 σ
    · refine j_aload_n (pc := 62) rfl 1 rfl E dX10_isScanned_62 ?_
      refine j_aload_n (pc := 63) rfl 2 rfl E dX10_isScanned_63 ?_
      refine j_iload (pc := 64) 6 rfl E dX10_isScanned_64 ?_
      refine j_iald (pc := 66) E hr1 dX10_isScanned_66 ?_
      refine JF.xb (fun y8 m9 h10 => ?_)
      refine j_callVi (pc := 67) (st := []) E (kX10_kindOf h10) mv_X10_kindOf rfl s_85 q_1269 [.int (σ r1 v5.toNatClampNeg)] rfl rfl rfl (by decide) (Nat.le_of_ble_eq_true rfl) dX10_isScanned_67 ?_
      refine j_iconst (pc := 70) (v := 3) (by decide) E dX10_isScanned_70 ?_
      refine j_icmp_eq (pc := 71) (tgt := 94) E dX10_isScanned_71 (by decide) ?_ ?_
      · refine JF.sub [1, 2, 3, 4, 6] rfl ?_
        exact lX10_isScanned_J94 N v2 v3 v5 r1 k8 E R hr1 K8 m9
      · refine j_iload (pc := 74) 0 rfl E dX10_isScanned_74 ?_
        refine j_aload_n (pc := 76) rfl 1 rfl E dX10_isScanned_76 ?_
        refine j_get (pc := 77) E xuX10 rfl s_85 (k := 0) (by decide) q_1082 rfl (xflds_ref rfl) dX10_isScanned_77 ?_
        refine j_iconst (pc := 80) (v := 3) (by decide) E dX10_isScanned_80 ?_
        refine j_iald (pc := 81) E s_86 dX10_isScanned_81 ?_
        refine j_iconst (pc := 82) (v := 1) (by decide) E dX10_isScanned_82 ?_
        refine j_icmp_ne (pc := 83) (tgt := 90) E dX10_isScanned_83 (by decide) ?_ ?_
        · refine j_iconst (pc := 86) (v := 1) (by decide) E dX10_isScanned_86 ?_
          refine j_goto (pc := 87) (tgt := 91) E dX10_isScanned_87 (by decide) ?_
          refine JF.sub [1, 2, 3, 4, 6] rfl ?_
          exact lX10_isScanned_J91 N v2 v3 v5 1 t0 r1 k8 E R hr1 K8 m9
        · refine j_iconst (pc := 90) (v := 0) (by decide) E dX10_isScanned_90 ?_
          refine JF.sub [1, 2, 3, 4, 6] rfl ?_
          exact lX10_isScanned_J91 N v2 v3 v5 0 t0 r1 k8 E R hr1 K8 m9
def fX10_isScanned_L8 (N : Nat) (v2 : Int32) (r1 : Nat) (k118 : Int32 → XS → Option XO) : Nat → Int32 → Int32 → Int32 → XS → Option XO
  | 0, _, _, _, _ => none
  | n + 1, v3, v4, v5, σ => if v2 ≤ v5 then k118 v4 σ else gd (xin v5 (xlen r1)) (gd (xin ((6 + (4 * (σ r1 v5.toNatClampNeg))) + 2) 98) (xLetI (v3 + (σ 86 ((6 + (4 * (σ r1 v5.toNatClampNeg))) + 2).toNatClampNeg)) (fun x1 => gd (!decide (2 = 0)) (if (x1 - x1 / 2 * 2) = 0 then fX10_isScanned_J46 N v2 v3 v4 v5 1 r1 (fX10_isScanned_L8 N v2 r1 k118 n) σ else fX10_isScanned_J46 N v2 v3 v4 v5 0 r1 (fX10_isScanned_L8 N v2 r1 k118 n) σ))))
set_option maxRecDepth 100000 in
set_option maxHeartbeats 4000000 in
theorem lX10_isScanned_L8 (N : Nat) (v2 : Int32) (r1 : Nat) (k118 : Int32 → XS → Option XO) {X : XC} {o : XO} (E : XE X cX10_isScanned RX10 8 1 21) (R : XZ X o cX10_isScanned .boolean) (hr1 : xRow r1) (K118 : ∀ (v4 : Int32) (σ : XS), JF X o 8 118 [(4, .int v4)] [] σ (k118 v4 σ)) : ∀ (n : Nat) (v3 : Int32) (v4 : Int32) (v5 : Int32) (σ : XS), JF X o 8 8 [(0, .ref (xa X 85)), (1, .ref (xa X r1)), (2, .int v2), (3, .int v3), (4, .int v4), (5, .int v5)] [] σ (fX10_isScanned_L8 N v2 r1 k118 n v3 v4 v5 σ) := by
  intro n
  induction n with
  | zero => intro v3 v4 v5 σ; exact JF.none
  | succ n ih =>
    intro v3 v4 v5 σ
    show JF X o 8 8 [(0, .ref (xa X 85)), (1, .ref (xa X r1)), (2, .int v2), (3, .int v3), (4, .int v4), (5, .int v5)] [] σ (if v2 ≤ v5 then k118 v4 σ else gd (xin v5 (xlen r1)) (gd (xin ((6 + (4 * (σ r1 v5.toNatClampNeg))) + 2) 98) (xLetI (v3 + (σ 86 ((6 + (4 * (σ r1 v5.toNatClampNeg))) + 2).toNatClampNeg)) (fun x1 => gd (!decide (2 = 0)) (if (x1 - x1 / 2 * 2) = 0 then fX10_isScanned_J46 N v2 v3 v4 v5 1 r1 (fX10_isScanned_L8 N v2 r1 k118 n) σ else fX10_isScanned_J46 N v2 v3 v4 v5 0 r1 (fX10_isScanned_L8 N v2 r1 k118 n) σ)))))
    refine j_iload (pc := 8) 5 rfl E dX10_isScanned_8 ?_
    refine j_iload_n (pc := 10) rfl 2 rfl E dX10_isScanned_10 ?_
    refine j_icmp_ge (pc := 11) (tgt := 118) E dX10_isScanned_11 (by decide) ?_ ?_
    · refine JF.sub [4] rfl ?_
      exact K118 v4 σ
    · refine j_iload_n (pc := 14) rfl 3 rfl E dX10_isScanned_14 ?_
      refine j_aload_n (pc := 15) rfl 0 rfl E dX10_isScanned_15 ?_
      refine j_get (pc := 16) E xuX10 rfl s_85 (k := 0) (by decide) q_1082 rfl (xflds_ref rfl) dX10_isScanned_16 ?_
      refine j_bipush (pc := 19) (v := 6) (by decide) E dX10_isScanned_19 ?_
      refine j_iconst (pc := 21) (v := 4) (by decide) E dX10_isScanned_21 ?_
      refine j_aload_n (pc := 22) rfl 1 rfl E dX10_isScanned_22 ?_
      refine j_iload (pc := 23) 5 rfl E dX10_isScanned_23 ?_
      refine j_iald (pc := 25) E hr1 dX10_isScanned_25 ?_
      refine j_imul (pc := 26) E dX10_isScanned_26 ?_
      refine j_iadd (pc := 27) E dX10_isScanned_27 ?_
      refine j_iconst (pc := 28) (v := 2) (by decide) E dX10_isScanned_28 ?_
      refine j_iadd (pc := 29) E dX10_isScanned_29 ?_
      refine j_iald (pc := 30) E s_86 dX10_isScanned_30 ?_
      refine j_iadd (pc := 31) E dX10_isScanned_31 ?_
      refine JF.xletI (fun x1 => ?_)
      refine j_istore (pc := 32) (lv1 := [(6, .int x1), (0, .ref (xa X 85)), (1, .ref (xa X r1)), (2, .int v2), (3, .int v3), (4, .int v4), (5, .int v5)]) E dX10_isScanned_32 (by decide) rfl ?_
      refine j_iload (pc := 34) 0 rfl E dX10_isScanned_34 ?_
      refine j_iconst (pc := 36) (v := 2) (by decide) E dX10_isScanned_36 ?_
      refine j_irem (pc := 37) E dX10_isScanned_37 ?_
      refine j_if_ne (pc := 38) (tgt := 45) E dX10_isScanned_38 (by decide) ?_ ?_
      · refine j_iconst (pc := 41) (v := 1) (by decide) E dX10_isScanned_41 ?_
        refine j_goto (pc := 42) (tgt := 46) E dX10_isScanned_42 (by decide) ?_
        refine JF.sub [1, 2, 3, 4, 5, 6] rfl ?_
        exact lX10_isScanned_J46 N v2 v3 v4 v5 1 r1 (fX10_isScanned_L8 N v2 r1 k118 n) E R hr1 ih σ
      · refine j_iconst (pc := 45) (v := 0) (by decide) E dX10_isScanned_45 ?_
        refine JF.sub [1, 2, 3, 4, 5, 6] rfl ?_
        exact lX10_isScanned_J46 N v2 v3 v4 v5 0 r1 (fX10_isScanned_L8 N v2 r1 k118 n) E R hr1 ih σ
def fX10_isScanned (N : Nat) (σ : XS) (r1 : Nat) (p2 : Int32) : Option XO := fX10_isScanned_L8 N p2 r1 (fun x14 m15 => gd (decide (x14 = 0) || decide (x14 = 1)) (some (x14, m15))) N 0 1 0 σ
set_option maxRecDepth 100000 in
set_option maxHeartbeats 4000000 in
theorem kX10_isScanned {N : Nat} {σ : XS} {r1 : Nat} {p2 : Int32} {o : XO} (hr1 : xRow r1) (h : fX10_isScanned N σ r1 p2 = some o) : CtI yX10_isScanned cX10_isScanned 8 (some .boolean) 1 21 (fun Am ad => [.ref (Am 85), .ref (Am r1), .int p2]) σ o := by
  refine ct_z (by decide) (fun _ _ => Nat.le_of_ble_eq_true rfl) (fun X E R => ?_)
  rw [← h]
  show JF X o 8 0 [(0, .ref (xa X 85)), (1, .ref (xa X r1)), (2, .int p2)] [] σ (fX10_isScanned_L8 N p2 r1 (fun x14 m15 => gd (decide (x14 = 0) || decide (x14 = 1)) (some (x14, m15))) N 0 1 0 σ)
  refine j_iconst (pc := 0) (v := 0) (by decide) E dX10_isScanned_0 ?_
  refine j_istore_n (pc := 1) (lv1 := [(3, .int 0), (0, .ref (xa X 85)), (1, .ref (xa X r1)), (2, .int p2)]) E dX10_isScanned_1 rfl (by decide) rfl ?_
  refine j_iconst (pc := 2) (v := 1) (by decide) E dX10_isScanned_2 ?_
  refine j_istore (pc := 3) (lv1 := [(4, .int 1), (3, .int 0), (0, .ref (xa X 85)), (1, .ref (xa X r1)), (2, .int p2)]) E dX10_isScanned_3 (by decide) rfl ?_
  refine j_iconst (pc := 5) (v := 0) (by decide) E dX10_isScanned_5 ?_
  refine j_istore (pc := 6) (lv1 := [(5, .int 0), (4, .int 1), (3, .int 0), (0, .ref (xa X 85)), (1, .ref (xa X r1)), (2, .int p2)]) E dX10_isScanned_6 (by decide) rfl ?_
  refine JF.sub [3, 4, 5, 2, 1, 0] rfl ?_
  refine lX10_isScanned_L8 N p2 r1 _ E R hr1 (fun x14 m15 => ?_) N 0 1 0 σ
  · refine j_iload (pc := 118) 0 rfl E dX10_isScanned_118 ?_
    exact j_zretg (pc := 120) E R dX10_isScanned_120
def fX10_rhymes (N : Nat) (σ : XS) (p1 : Int32) (p2 : Int32) : Option XO := xB (fX10_kindOf N σ p1) (fun y1 m2 => if y1 = 2 then some (1, m2) else gd (xin ((6 + (4 * p1)) + 3) 98) (gd (xin (42 + p2) 98) (if (m2 86 ((6 + (4 * p1)) + 3).toNatClampNeg) = (m2 86 (42 + p2).toNatClampNeg) then some (1, m2) else some (0, m2))))
set_option maxRecDepth 100000 in
set_option maxHeartbeats 4000000 in
theorem kX10_rhymes {N : Nat} {σ : XS} {p1 : Int32} {p2 : Int32} {o : XO} (h : fX10_rhymes N σ p1 p2 = some o) : CtI yX10_rhymes cX10_rhymes 3 (some .boolean) 1 21 (fun Am ad => [.ref (Am 85), .int p1, .int p2]) σ o := by
  refine ct_z (by decide) (fun _ _ => Nat.le_of_ble_eq_true rfl) (fun X E R => ?_)
  rw [← h]
  show JF X o 3 0 [(0, .ref (xa X 85)), (1, .int p1), (2, .int p2)] [] σ (xB (fX10_kindOf N σ p1) (fun y1 m2 => if y1 = 2 then some (1, m2) else gd (xin ((6 + (4 * p1)) + 3) 98) (gd (xin (42 + p2) 98) (if (m2 86 ((6 + (4 * p1)) + 3).toNatClampNeg) = (m2 86 (42 + p2).toNatClampNeg) then some (1, m2) else some (0, m2)))))
  refine j_aload_n (pc := 0) rfl 0 rfl E dX10_rhymes_0 ?_
  refine j_iload_n (pc := 1) rfl 1 rfl E dX10_rhymes_1 ?_
  refine JF.xb (fun y1 m2 h3 => ?_)
  refine j_callVi (pc := 2) (st := []) E (kX10_kindOf h3) mv_X10_kindOf rfl s_85 q_1269 [.int p1] rfl rfl rfl (by decide) (Nat.le_of_ble_eq_true rfl) dX10_rhymes_2 ?_
  refine j_iconst (pc := 5) (v := 2) (by decide) E dX10_rhymes_5 ?_
  refine j_icmp_eq (pc := 6) (tgt := 34) E dX10_rhymes_6 (by decide) ?_ ?_
  · refine j_iconst (pc := 34) (v := 1) (by decide) E dX10_rhymes_34 ?_
    refine j_goto (pc := 35) (tgt := 39) E dX10_rhymes_35 (by decide) ?_
    exact j_zret (pc := 39) E R rfl dX10_rhymes_39
  · refine j_aload_n (pc := 9) rfl 0 rfl E dX10_rhymes_9 ?_
    refine j_get (pc := 10) E xuX10 rfl s_85 (k := 0) (by decide) q_1082 rfl (xflds_ref rfl) dX10_rhymes_10 ?_
    refine j_bipush (pc := 13) (v := 6) (by decide) E dX10_rhymes_13 ?_
    refine j_iconst (pc := 15) (v := 4) (by decide) E dX10_rhymes_15 ?_
    refine j_iload_n (pc := 16) rfl 1 rfl E dX10_rhymes_16 ?_
    refine j_imul (pc := 17) E dX10_rhymes_17 ?_
    refine j_iadd (pc := 18) E dX10_rhymes_18 ?_
    refine j_iconst (pc := 19) (v := 3) (by decide) E dX10_rhymes_19 ?_
    refine j_iadd (pc := 20) E dX10_rhymes_20 ?_
    refine j_iald (pc := 21) E s_86 dX10_rhymes_21 ?_
    refine j_aload_n (pc := 22) rfl 0 rfl E dX10_rhymes_22 ?_
    refine j_get (pc := 23) E xuX10 rfl s_85 (k := 0) (by decide) q_1082 rfl (xflds_ref rfl) dX10_rhymes_23 ?_
    refine j_bipush (pc := 26) (v := 42) (by decide) E dX10_rhymes_26 ?_
    refine j_iload_n (pc := 28) rfl 2 rfl E dX10_rhymes_28 ?_
    refine j_iadd (pc := 29) E dX10_rhymes_29 ?_
    refine j_iald (pc := 30) E s_86 dX10_rhymes_30 ?_
    refine j_icmp_ne (pc := 31) (tgt := 38) E dX10_rhymes_31 (by decide) ?_ ?_
    · refine j_iconst (pc := 34) (v := 1) (by decide) E dX10_rhymes_34 ?_
      refine j_goto (pc := 35) (tgt := 39) E dX10_rhymes_35 (by decide) ?_
      exact j_zret (pc := 39) E R rfl dX10_rhymes_39
    · refine j_iconst (pc := 38) (v := 0) (by decide) E dX10_rhymes_38 ?_
      exact j_zret (pc := 39) E R rfl dX10_rhymes_39
def fX10_isPassed_J54 (N : Nat) (v2 : Int32) (v3 : Int32) (v5 : Int32) (t0 : Int32) (r1 : Nat) (σ : XS) : Option XO := if t0 = 0 then some (0, σ) else xB (fX10_countedBy N σ v5 r1 v2) (fun y2 m3 => gd (xin (46 + (3 * v3)) 98) (if y2 = (m3 86 (46 + (3 * v3)).toNatClampNeg) then xB (fX10_isScanned N m3 r1 v2) (fun y5 m6 => if y5 = 0 then some (0, m6) else some (1, m6)) else some (0, m3)))
set_option maxRecDepth 100000 in
set_option maxHeartbeats 4000000 in
theorem lX10_isPassed_J54 (N : Nat) (v2 : Int32) (v3 : Int32) (v5 : Int32) (t0 : Int32) (r1 : Nat) {X : XC} {o : XO} (E : XE X cX10_isPassed RX10 7 3 70) (R : XZ X o cX10_isPassed .boolean) (hr1 : xRow r1) (σ : XS) : JF X o 7 54 [(0, .ref (xa X 85)), (1, .ref (xa X r1)), (2, .int v2), (3, .int v3), (5, .int v5)] [.int t0] σ (fX10_isPassed_J54 N v2 v3 v5 t0 r1 σ) := by
  show JF X o 7 54 [(0, .ref (xa X 85)), (1, .ref (xa X r1)), (2, .int v2), (3, .int v3), (5, .int v5)] [.int t0] σ (if t0 = 0 then some (0, σ) else xB (fX10_countedBy N σ v5 r1 v2) (fun y2 m3 => gd (xin (46 + (3 * v3)) 98) (if y2 = (m3 86 (46 + (3 * v3)).toNatClampNeg) then xB (fX10_isScanned N m3 r1 v2) (fun y5 m6 => if y5 = 0 then some (0, m6) else some (1, m6)) else some (0, m3))))
  refine j_istore (pc := 54) (lv1 := [(6, .int t0), (0, .ref (xa X 85)), (1, .ref (xa X r1)), (2, .int v2), (3, .int v3), (5, .int v5)]) E dX10_isPassed_54 (by decide) rfl ?_
  refine j_iload (pc := 56) 0 rfl E dX10_isPassed_56 ?_
  refine j_if_eq (pc := 58) (tgt := 96) E dX10_isPassed_58 (by decide) ?_ ?_
  · refine j_iconst (pc := 96) (v := 0) (by decide) E dX10_isPassed_96 ?_
    exact j_zret (pc := 97) E R rfl dX10_isPassed_97
  · refine j_aload_n (pc := 61) rfl 1 rfl E dX10_isPassed_61 ?_
    refine j_iload (pc := 62) 5 rfl E dX10_isPassed_62 ?_
    refine j_aload_n (pc := 64) rfl 2 rfl E dX10_isPassed_64 ?_
    refine j_iload_n (pc := 65) rfl 3 rfl E dX10_isPassed_65 ?_
    refine JF.xb (fun y2 m3 h4 => ?_)
    refine j_callVi (pc := 66) (st := []) E (kX10_countedBy hr1 h4) mv_X10_countedBy rfl s_85 q_1277 [.int v5, .ref (xa X r1), .int v2] rfl rfl rfl (by decide) (Nat.le_of_ble_eq_true rfl) dX10_isPassed_66 ?_
    refine j_aload_n (pc := 69) rfl 1 rfl E dX10_isPassed_69 ?_
    refine j_get (pc := 70) E xuX10 rfl s_85 (k := 0) (by decide) q_1082 rfl (xflds_ref rfl) dX10_isPassed_70 ?_
    refine j_bipush (pc := 73) (v := 46) (by decide) E dX10_isPassed_73 ?_
    refine j_iconst (pc := 75) (v := 3) (by decide) E dX10_isPassed_75 ?_
    refine j_iload_n (pc := 76) rfl 4 rfl E dX10_isPassed_76 ?_
    refine j_imul (pc := 77) E dX10_isPassed_77 ?_
    refine j_iadd (pc := 78) E dX10_isPassed_78 ?_
    refine j_iald (pc := 79) E s_86 dX10_isPassed_79 ?_
    refine j_icmp_ne (pc := 80) (tgt := 96) E dX10_isPassed_80 (by decide) ?_ ?_
    · refine j_aload_n (pc := 83) rfl 1 rfl E dX10_isPassed_83 ?_
      refine j_aload_n (pc := 84) rfl 2 rfl E dX10_isPassed_84 ?_
      refine j_iload_n (pc := 85) rfl 3 rfl E dX10_isPassed_85 ?_
      refine JF.xb (fun y5 m6 h7 => ?_)
      refine j_callVi (pc := 86) (st := []) E (kX10_isScanned hr1 h7) mv_X10_isScanned rfl s_85 q_1309 [.ref (xa X r1), .int v2] rfl rfl rfl (by decide) (Nat.le_of_ble_eq_true rfl) dX10_isPassed_86 ?_
      refine j_if_eq (pc := 89) (tgt := 96) E dX10_isPassed_89 (by decide) ?_ ?_
      · refine j_iconst (pc := 96) (v := 0) (by decide) E dX10_isPassed_96 ?_
        exact j_zret (pc := 97) E R rfl dX10_isPassed_97
      · refine j_iconst (pc := 92) (v := 1) (by decide) E dX10_isPassed_92 ?_
        refine j_goto (pc := 93) (tgt := 97) E dX10_isPassed_93 (by decide) ?_
        exact j_zret (pc := 97) E R rfl dX10_isPassed_97
    · refine j_iconst (pc := 96) (v := 0) (by decide) E dX10_isPassed_96 ?_
      exact j_zret (pc := 97) E R rfl dX10_isPassed_97
def fX10_isPassed_J49 (N : Nat) (v2 : Int32) (v3 : Int32) (v5 : Int32) (r1 : Nat) (σ : XS) : Option XO := fX10_isPassed_J54 N v2 v3 v5 1 r1 σ
set_option maxRecDepth 100000 in
set_option maxHeartbeats 4000000 in
theorem lX10_isPassed_J49 (N : Nat) (v2 : Int32) (v3 : Int32) (v5 : Int32) (r1 : Nat) {X : XC} {o : XO} (E : XE X cX10_isPassed RX10 7 3 70) (R : XZ X o cX10_isPassed .boolean) (hr1 : xRow r1) (σ : XS) : JF X o 7 49 [(0, .ref (xa X 85)), (1, .ref (xa X r1)), (2, .int v2), (3, .int v3), (5, .int v5)] [] σ (fX10_isPassed_J49 N v2 v3 v5 r1 σ) := by
  show JF X o 7 49 [(0, .ref (xa X 85)), (1, .ref (xa X r1)), (2, .int v2), (3, .int v3), (5, .int v5)] [] σ (fX10_isPassed_J54 N v2 v3 v5 1 r1 σ)
  refine j_iconst (pc := 49) (v := 1) (by decide) E dX10_isPassed_49 ?_
  refine j_goto (pc := 50) (tgt := 54) E dX10_isPassed_50 (by decide) ?_
  refine JF.sub [0, 1, 2, 3, 4] rfl ?_
  exact lX10_isPassed_J54 N v2 v3 v5 1 r1 E R hr1 σ
def fX10_isPassed (N : Nat) (σ : XS) (r1 : Nat) (p2 : Int32) (p3 : Int32) (p4 : Int32) : Option XO := if p2 = 0 then some (0, σ) else gd (xin (64 + p4) 98) (xLetI (σ 86 (64 + p4).toNatClampNeg) (fun x1 => if x1 = 2 then fX10_isPassed_J49 N p2 p3 x1 r1 σ else gd (xin (p2 - 1) (xlen r1)) (gd (xin ((46 + (3 * p3)) + 1) 98) (xB (fX10_rhymes N σ (σ r1 (p2 - 1).toNatClampNeg) (σ 86 ((46 + (3 * p3)) + 1).toNatClampNeg)) (fun y8 m9 => if y8 = 0 then fX10_isPassed_J54 N p2 p3 x1 0 r1 m9 else fX10_isPassed_J49 N p2 p3 x1 r1 m9)))))
set_option maxRecDepth 100000 in
set_option maxHeartbeats 4000000 in
theorem kX10_isPassed {N : Nat} {σ : XS} {r1 : Nat} {p2 : Int32} {p3 : Int32} {p4 : Int32} {o : XO} (hr1 : xRow r1) (h : fX10_isPassed N σ r1 p2 p3 p4 = some o) : CtI yX10_isPassed cX10_isPassed 7 (some .boolean) 3 70 (fun Am ad => [.ref (Am 85), .ref (Am r1), .int p2, .int p3, .int p4]) σ o := by
  refine ct_z (by decide) (fun _ _ => Nat.le_of_ble_eq_true rfl) (fun X E R => ?_)
  rw [← h]
  show JF X o 7 0 [(0, .ref (xa X 85)), (1, .ref (xa X r1)), (2, .int p2), (3, .int p3), (4, .int p4)] [] σ (if p2 = 0 then some (0, σ) else gd (xin (64 + p4) 98) (xLetI (σ 86 (64 + p4).toNatClampNeg) (fun x1 => if x1 = 2 then fX10_isPassed_J49 N p2 p3 x1 r1 σ else gd (xin (p2 - 1) (xlen r1)) (gd (xin ((46 + (3 * p3)) + 1) 98) (xB (fX10_rhymes N σ (σ r1 (p2 - 1).toNatClampNeg) (σ 86 ((46 + (3 * p3)) + 1).toNatClampNeg)) (fun y8 m9 => if y8 = 0 then fX10_isPassed_J54 N p2 p3 x1 0 r1 m9 else fX10_isPassed_J49 N p2 p3 x1 r1 m9))))))
  refine j_iload_n (pc := 0) rfl 2 rfl E dX10_isPassed_0 ?_
  refine j_if_ne (pc := 1) (tgt := 6) E dX10_isPassed_1 (by decide) ?_ ?_
  · refine j_iconst (pc := 4) (v := 0) (by decide) E dX10_isPassed_4 ?_
    exact j_zret (pc := 5) E R rfl dX10_isPassed_5
  · refine j_aload_n (pc := 6) rfl 0 rfl E dX10_isPassed_6 ?_
    refine j_get (pc := 7) E xuX10 rfl s_85 (k := 0) (by decide) q_1082 rfl (xflds_ref rfl) dX10_isPassed_7 ?_
    refine j_bipush (pc := 10) (v := 64) (by decide) E dX10_isPassed_10 ?_
    refine j_iload (pc := 12) 4 rfl E dX10_isPassed_12 ?_
    refine j_iadd (pc := 14) E dX10_isPassed_14 ?_
    refine j_iald (pc := 15) E s_86 dX10_isPassed_15 ?_
    refine JF.xletI (fun x1 => ?_)
    refine j_istore (pc := 16) (lv1 := [(5, .int x1), (0, .ref (xa X 85)), (1, .ref (xa X r1)), (2, .int p2), (3, .int p3), (4, .int p4)]) E dX10_isPassed_16 (by decide) rfl ?_
    refine j_iload (pc := 18) 0 rfl E dX10_isPassed_18 ?_
    refine j_iconst (pc := 20) (v := 2) (by decide) E dX10_isPassed_20 ?_
    refine j_icmp_eq (pc := 21) (tgt := 49) E dX10_isPassed_21 (by decide) ?_ ?_
    · refine JF.sub [1, 2, 3, 4, 0] rfl ?_
      exact lX10_isPassed_J49 N p2 p3 x1 r1 E R hr1 σ
    · refine j_aload_n (pc := 24) rfl 1 rfl E dX10_isPassed_24 ?_
      refine j_aload_n (pc := 25) rfl 2 rfl E dX10_isPassed_25 ?_
      refine j_iload_n (pc := 26) rfl 3 rfl E dX10_isPassed_26 ?_
      refine j_iconst (pc := 27) (v := 1) (by decide) E dX10_isPassed_27 ?_
      refine j_isub (pc := 28) E dX10_isPassed_28 ?_
      refine j_iald (pc := 29) E hr1 dX10_isPassed_29 ?_
      refine j_aload_n (pc := 30) rfl 1 rfl E dX10_isPassed_30 ?_
      refine j_get (pc := 31) E xuX10 rfl s_85 (k := 0) (by decide) q_1082 rfl (xflds_ref rfl) dX10_isPassed_31 ?_
      refine j_bipush (pc := 34) (v := 46) (by decide) E dX10_isPassed_34 ?_
      refine j_iconst (pc := 36) (v := 3) (by decide) E dX10_isPassed_36 ?_
      refine j_iload_n (pc := 37) rfl 4 rfl E dX10_isPassed_37 ?_
      refine j_imul (pc := 38) E dX10_isPassed_38 ?_
      refine j_iadd (pc := 39) E dX10_isPassed_39 ?_
      refine j_iconst (pc := 40) (v := 1) (by decide) E dX10_isPassed_40 ?_
      refine j_iadd (pc := 41) E dX10_isPassed_41 ?_
      refine j_iald (pc := 42) E s_86 dX10_isPassed_42 ?_
      refine JF.xb (fun y8 m9 h10 => ?_)
      refine j_callVi (pc := 43) (st := []) E (kX10_rhymes h10) mv_X10_rhymes rfl s_85 q_1325 [.int (σ r1 (p2 - 1).toNatClampNeg), .int (σ 86 ((46 + (3 * p3)) + 1).toNatClampNeg)] rfl rfl rfl (by decide) (Nat.le_of_ble_eq_true rfl) dX10_isPassed_43 ?_
      refine j_if_eq (pc := 46) (tgt := 53) E dX10_isPassed_46 (by decide) ?_ ?_
      · refine j_iconst (pc := 53) (v := 0) (by decide) E dX10_isPassed_53 ?_
        refine JF.sub [1, 2, 3, 4, 0] rfl ?_
        exact lX10_isPassed_J54 N p2 p3 x1 0 r1 E R hr1 m9
      · refine JF.sub [1, 2, 3, 4, 0] rfl ?_
        exact lX10_isPassed_J49 N p2 p3 x1 r1 E R hr1 m9
def fX10_isWorn (N : Nat) (σ : XS) (p1 : Int32) (r2 : Nat) (p3 : Int32) : Option XO := gd (xin ((6 + (4 * p1)) + 3) 98) (xLetI (σ 86 ((6 + (4 * p1)) + 3).toNatClampNeg) (fun x1 => xB (fX10_kindOf N σ p1) (fun y2 m3 => if y2 = 2 then some (0, m3) else gd (xin (p3 + x1) (xlen r2)) (gd (xin (73 + x1) 98) (if (m3 r2 (p3 + x1).toNatClampNeg) < (m3 86 (73 + x1).toNatClampNeg) then some (0, m3) else some (1, m3))))))
set_option maxRecDepth 100000 in
set_option maxHeartbeats 4000000 in
theorem kX10_isWorn {N : Nat} {σ : XS} {p1 : Int32} {r2 : Nat} {p3 : Int32} {o : XO} (hr2 : xRow r2) (h : fX10_isWorn N σ p1 r2 p3 = some o) : CtI yX10_isWorn cX10_isWorn 5 (some .boolean) 1 21 (fun Am ad => [.ref (Am 85), .int p1, .ref (Am r2), .int p3]) σ o := by
  refine ct_z (by decide) (fun _ _ => Nat.le_of_ble_eq_true rfl) (fun X E R => ?_)
  rw [← h]
  show JF X o 5 0 [(0, .ref (xa X 85)), (1, .int p1), (2, .ref (xa X r2)), (3, .int p3)] [] σ (gd (xin ((6 + (4 * p1)) + 3) 98) (xLetI (σ 86 ((6 + (4 * p1)) + 3).toNatClampNeg) (fun x1 => xB (fX10_kindOf N σ p1) (fun y2 m3 => if y2 = 2 then some (0, m3) else gd (xin (p3 + x1) (xlen r2)) (gd (xin (73 + x1) 98) (if (m3 r2 (p3 + x1).toNatClampNeg) < (m3 86 (73 + x1).toNatClampNeg) then some (0, m3) else some (1, m3)))))))
  refine j_aload_n (pc := 0) rfl 0 rfl E dX10_isWorn_0 ?_
  refine j_get (pc := 1) E xuX10 rfl s_85 (k := 0) (by decide) q_1082 rfl (xflds_ref rfl) dX10_isWorn_1 ?_
  refine j_bipush (pc := 4) (v := 6) (by decide) E dX10_isWorn_4 ?_
  refine j_iconst (pc := 6) (v := 4) (by decide) E dX10_isWorn_6 ?_
  refine j_iload_n (pc := 7) rfl 1 rfl E dX10_isWorn_7 ?_
  refine j_imul (pc := 8) E dX10_isWorn_8 ?_
  refine j_iadd (pc := 9) E dX10_isWorn_9 ?_
  refine j_iconst (pc := 10) (v := 3) (by decide) E dX10_isWorn_10 ?_
  refine j_iadd (pc := 11) E dX10_isWorn_11 ?_
  refine j_iald (pc := 12) E s_86 dX10_isWorn_12 ?_
  refine JF.xletI (fun x1 => ?_)
  refine j_istore (pc := 13) (lv1 := [(4, .int x1), (0, .ref (xa X 85)), (1, .int p1), (2, .ref (xa X r2)), (3, .int p3)]) E dX10_isWorn_13 (by decide) rfl ?_
  refine j_aload_n (pc := 15) rfl 1 rfl E dX10_isWorn_15 ?_
  refine j_iload_n (pc := 16) rfl 2 rfl E dX10_isWorn_16 ?_
  refine JF.xb (fun y2 m3 h4 => ?_)
  refine j_callVi (pc := 17) (st := []) E (kX10_kindOf h4) mv_X10_kindOf rfl s_85 q_1269 [.int p1] rfl rfl rfl (by decide) (Nat.le_of_ble_eq_true rfl) dX10_isWorn_17 ?_
  refine j_iconst (pc := 20) (v := 2) (by decide) E dX10_isWorn_20 ?_
  refine j_icmp_eq (pc := 21) (tgt := 47) E dX10_isWorn_21 (by decide) ?_ ?_
  · refine j_iconst (pc := 47) (v := 0) (by decide) E dX10_isWorn_47 ?_
    exact j_zret (pc := 48) E R rfl dX10_isWorn_48
  · refine j_aload_n (pc := 24) rfl 3 rfl E dX10_isWorn_24 ?_
    refine j_iload_n (pc := 25) rfl 4 rfl E dX10_isWorn_25 ?_
    refine j_iload (pc := 26) 0 rfl E dX10_isWorn_26 ?_
    refine j_iadd (pc := 28) E dX10_isWorn_28 ?_
    refine j_iald (pc := 29) E hr2 dX10_isWorn_29 ?_
    refine j_aload_n (pc := 30) rfl 1 rfl E dX10_isWorn_30 ?_
    refine j_get (pc := 31) E xuX10 rfl s_85 (k := 0) (by decide) q_1082 rfl (xflds_ref rfl) dX10_isWorn_31 ?_
    refine j_bipush (pc := 34) (v := 73) (by decide) E dX10_isWorn_34 ?_
    refine j_iload (pc := 36) 0 rfl E dX10_isWorn_36 ?_
    refine j_iadd (pc := 38) E dX10_isWorn_38 ?_
    refine j_iald (pc := 39) E s_86 dX10_isWorn_39 ?_
    refine j_icmp_lt (pc := 40) (tgt := 47) E dX10_isWorn_40 (by decide) ?_ ?_
    · refine j_iconst (pc := 47) (v := 0) (by decide) E dX10_isWorn_47 ?_
      exact j_zret (pc := 48) E R rfl dX10_isWorn_48
    · refine j_iconst (pc := 43) (v := 1) (by decide) E dX10_isWorn_43 ?_
      refine j_goto (pc := 44) (tgt := 48) E dX10_isWorn_44 (by decide) ?_
      exact j_zret (pc := 48) E R rfl dX10_isWorn_48
def fX10_put (N : Nat) (σ : XS) (p1 : Int32) : Option XO := xB (fX10_isWord N σ p1) (fun y1 m2 => if y1 = 0 then some ((-2), m2) else if (m2 85 6) = 6 then some ((-5), m2) else xLet (xUp m2 90 (m2 85 6).toNatClampNeg p1) (fun m4 => gd (xin (m2 85 6) 6) (xLet (xUp m4 85 6 ((m4 85 6) + 1)) (fun m7 => some ((m7 85 6), m7)))))
set_option maxRecDepth 100000 in
set_option maxHeartbeats 4000000 in
theorem kX10_put {N : Nat} {σ : XS} {p1 : Int32} {o : XO} (h : fX10_put N σ p1 = some o) : CtI yX10_put cX10_put 2 (some .int) 2 46 (fun Am ad => [.ref (Am 85), .int p1]) σ o := by
  refine ct_int (by decide) (fun _ _ => Nat.le_of_ble_eq_true rfl) (fun X E R => ?_)
  rw [← h]
  show JF X o 2 0 [(0, .ref (xa X 85)), (1, .int p1)] [] σ (xB (fX10_isWord N σ p1) (fun y1 m2 => if y1 = 0 then some ((-2), m2) else if (m2 85 6) = 6 then some ((-5), m2) else xLet (xUp m2 90 (m2 85 6).toNatClampNeg p1) (fun m4 => gd (xin (m2 85 6) 6) (xLet (xUp m4 85 6 ((m4 85 6) + 1)) (fun m7 => some ((m7 85 6), m7))))))
  refine j_aload_n (pc := 0) rfl 0 rfl E dX10_put_0 ?_
  refine j_iload_n (pc := 1) rfl 1 rfl E dX10_put_1 ?_
  refine JF.xb (fun y1 m2 h3 => ?_)
  refine j_callVi (pc := 2) (st := []) E (kX10_isWord h3) mv_X10_isWord rfl s_85 q_1233 [.int p1] rfl rfl rfl (by decide) (Nat.le_of_ble_eq_true rfl) dX10_put_2 ?_
  refine j_if_ne (pc := 5) (tgt := 11) E dX10_put_5 (by decide) ?_ ?_
  · refine j_bipush (pc := 8) (v := (-2)) (by decide) E dX10_put_8 ?_
    exact j_iret (pc := 10) E R dX10_put_10
  · refine j_aload_n (pc := 11) rfl 0 rfl E dX10_put_11 ?_
    refine j_get (pc := 12) E xuX10 rfl s_85 (k := 6) (by decide) q_1088 rfl (xflds_int rfl) dX10_put_12 ?_
    refine j_bipush (pc := 15) (v := 6) (by decide) E dX10_put_15 ?_
    refine j_icmp_ne (pc := 17) (tgt := 23) E dX10_put_17 (by decide) ?_ ?_
    · refine j_bipush (pc := 20) (v := (-5)) (by decide) E dX10_put_20 ?_
      exact j_iret (pc := 22) E R dX10_put_22
    · refine j_aload_n (pc := 23) rfl 0 rfl E dX10_put_23 ?_
      refine j_get (pc := 24) E xuX10 rfl s_85 (k := 5) (by decide) q_1087 rfl (xflds_ref rfl) dX10_put_24 ?_
      refine j_aload_n (pc := 27) rfl 0 rfl E dX10_put_27 ?_
      refine j_get (pc := 28) E xuX10 rfl s_85 (k := 6) (by decide) q_1088 rfl (xflds_int rfl) dX10_put_28 ?_
      refine j_iload_n (pc := 31) rfl 1 rfl E dX10_put_31 ?_
      refine JF.xlet (fun m4 e5 => ?_)
      refine j_iast (pc := 32) E s_90 dX10_put_32 e5 ?_
      refine j_aload_n (pc := 33) rfl 0 rfl E dX10_put_33 ?_
      refine j_dup (pc := 34) rfl E dX10_put_34 ?_
      refine j_get (pc := 35) E xuX10 rfl s_85 (k := 6) (by decide) q_1088 rfl (xflds_int rfl) dX10_put_35 ?_
      refine j_iconst (pc := 38) (v := 1) (by decide) E dX10_put_38 ?_
      refine j_iadd (pc := 39) E dX10_put_39 ?_
      refine JF.xlet (fun m7 e8 => ?_)
      refine j_put (pc := 40) E xuX10 tyX10 tyX10_ok nmX10 rfl s_85 rfl (k := 6) (by decide) q_1088 rfl rfl (ty := .int) (by decide +kernel) rfl rfl dX10_put_40 e8 ?_
      refine j_aload_n (pc := 43) rfl 0 rfl E dX10_put_43 ?_
      refine j_get (pc := 44) E xuX10 rfl s_85 (k := 6) (by decide) q_1088 rfl (xflds_int rfl) dX10_put_44 ?_
      exact j_iret (pc := 47) E R dX10_put_47
def fX10_wipe (N : Nat) (σ : XS) : Option XO := xLet (xUp σ 85 6 0) (fun m1 => some ((σ 85 6), m1))
set_option maxRecDepth 100000 in
set_option maxHeartbeats 4000000 in
theorem kX10_wipe {N : Nat} {σ : XS} {o : XO} (h : fX10_wipe N σ = some o) : CtI yX10_wipe cX10_wipe 2 (some .int) 0 0 (fun Am ad => [.ref (Am 85)]) σ o := by
  refine ct_int (by decide) (fun _ _ => Nat.le_of_ble_eq_true rfl) (fun X E R => ?_)
  rw [← h]
  show JF X o 2 0 [(0, .ref (xa X 85))] [] σ (xLet (xUp σ 85 6 0) (fun m1 => some ((σ 85 6), m1)))
  refine j_aload_n (pc := 0) rfl 0 rfl E dX10_wipe_0 ?_
  refine j_get (pc := 1) E xuX10 rfl s_85 (k := 6) (by decide) q_1088 rfl (xflds_int rfl) dX10_wipe_1 ?_
  refine j_istore_n (pc := 4) (lv1 := [(1, .int (σ 85 6)), (0, .ref (xa X 85))]) E dX10_wipe_4 rfl (by decide) rfl ?_
  refine j_aload_n (pc := 5) rfl 1 rfl E dX10_wipe_5 ?_
  refine j_iconst (pc := 6) (v := 0) (by decide) E dX10_wipe_6 ?_
  refine JF.xlet (fun m1 e2 => ?_)
  refine j_put (pc := 7) E xuX10 tyX10 tyX10_ok nmX10 rfl s_85 rfl (k := 6) (by decide) q_1088 rfl rfl (ty := .int) (by decide +kernel) rfl rfl dX10_wipe_7 e2 ?_
  refine j_iload_n (pc := 10) rfl 0 rfl E dX10_wipe_10 ?_
  exact j_iret (pc := 11) E R dX10_wipe_11
def fX10_line (N : Nat) (σ : XS) (p1 : Int32) : Option XO := xB (fX10_in N σ p1.toInt64 0 (((σ 85 6) - 1).toInt64)) (fun y1 m2 => if y1 = 0 then some ((-3), m2) else gd (xin p1 6) (some ((m2 90 p1.toNatClampNeg), m2)))
set_option maxRecDepth 100000 in
set_option maxHeartbeats 4000000 in
theorem kX10_line {N : Nat} {σ : XS} {p1 : Int32} {o : XO} (h : fX10_line N σ p1 = some o) : CtI yX10_line cX10_line 2 (some .int) 1 25 (fun Am ad => [.ref (Am 85), .int p1]) σ o := by
  refine ct_int (by decide) (fun _ _ => Nat.le_of_ble_eq_true rfl) (fun X E R => ?_)
  rw [← h]
  show JF X o 2 0 [(0, .ref (xa X 85)), (1, .int p1)] [] σ (xB (fX10_in N σ p1.toInt64 0 (((σ 85 6) - 1).toInt64)) (fun y1 m2 => if y1 = 0 then some ((-3), m2) else gd (xin p1 6) (some ((m2 90 p1.toNatClampNeg), m2))))
  refine j_iload_n (pc := 0) rfl 1 rfl E dX10_line_0 ?_
  refine j_i2l (pc := 1) E dX10_line_1 ?_
  refine j_lconst (pc := 2) (v := 0) (by decide) E dX10_line_2 ?_
  refine j_aload_n (pc := 3) rfl 0 rfl E dX10_line_3 ?_
  refine j_get (pc := 4) E xuX10 rfl s_85 (k := 6) (by decide) q_1088 rfl (xflds_int rfl) dX10_line_4 ?_
  refine j_iconst (pc := 7) (v := 1) (by decide) E dX10_line_7 ?_
  refine j_isub (pc := 8) E dX10_line_8 ?_
  refine j_i2l (pc := 9) E dX10_line_9 ?_
  refine JF.xb (fun y1 m2 h3 => ?_)
  refine j_callSi (pc := 10) (st := []) E (kX10_in h3) mv_X10_in q_1079 [.long p1.toInt64, .long 0, .long (((σ 85 6) - 1).toInt64)] rfl rfl rfl (by decide) (Nat.le_of_ble_eq_true rfl) dX10_line_10 ?_
  refine j_if_eq (pc := 13) (tgt := 25) E dX10_line_13 (by decide) ?_ ?_
  · refine j_bipush (pc := 25) (v := (-3)) (by decide) E dX10_line_25 ?_
    exact j_iret (pc := 27) E R dX10_line_27
  · refine j_aload_n (pc := 16) rfl 0 rfl E dX10_line_16 ?_
    refine j_get (pc := 17) E xuX10 rfl s_85 (k := 5) (by decide) q_1087 rfl (xflds_ref rfl) dX10_line_17 ?_
    refine j_iload_n (pc := 20) rfl 1 rfl E dX10_line_20 ?_
    refine j_iald (pc := 21) E s_90 dX10_line_21 ?_
    refine j_goto (pc := 22) (tgt := 27) E dX10_line_22 (by decide) ?_
    exact j_iret (pc := 27) E R dX10_line_27
def fX10_counts (N : Nat) (σ : XS) (p1 : Int32) : Option XO := xB (fX10_isClerk N σ p1) (fun y1 m2 => if y1 = 0 then some ((-2), m2) else gd (xin (64 + p1) 98) (xB (fX10_countedBy N m2 (m2 86 (64 + p1).toNatClampNeg) 90 (m2 85 6)) (fun y4 m5 => some (y4, m5))))
set_option maxRecDepth 100000 in
set_option maxHeartbeats 4000000 in
theorem kX10_counts {N : Nat} {σ : XS} {p1 : Int32} {o : XO} (h : fX10_counts N σ p1 = some o) : CtI yX10_counts cX10_counts 2 (some .int) 3 70 (fun Am ad => [.ref (Am 85), .int p1]) σ o := by
  refine ct_int (by decide) (fun _ _ => Nat.le_of_ble_eq_true rfl) (fun X E R => ?_)
  rw [← h]
  show JF X o 2 0 [(0, .ref (xa X 85)), (1, .int p1)] [] σ (xB (fX10_isClerk N σ p1) (fun y1 m2 => if y1 = 0 then some ((-2), m2) else gd (xin (64 + p1) 98) (xB (fX10_countedBy N m2 (m2 86 (64 + p1).toNatClampNeg) 90 (m2 85 6)) (fun y4 m5 => some (y4, m5)))))
  refine j_aload_n (pc := 0) rfl 0 rfl E dX10_counts_0 ?_
  refine j_iload_n (pc := 1) rfl 1 rfl E dX10_counts_1 ?_
  refine JF.xb (fun y1 m2 h3 => ?_)
  refine j_callVi (pc := 2) (st := []) E (kX10_isClerk h3) mv_X10_isClerk rfl s_85 q_1251 [.int p1] rfl rfl rfl (by decide) (Nat.le_of_ble_eq_true rfl) dX10_counts_2 ?_
  refine j_if_eq (pc := 5) (tgt := 32) E dX10_counts_5 (by decide) ?_ ?_
  · refine j_bipush (pc := 32) (v := (-2)) (by decide) E dX10_counts_32 ?_
    exact j_iret (pc := 34) E R dX10_counts_34
  · refine j_aload_n (pc := 8) rfl 0 rfl E dX10_counts_8 ?_
    refine j_aload_n (pc := 9) rfl 0 rfl E dX10_counts_9 ?_
    refine j_get (pc := 10) E xuX10 rfl s_85 (k := 0) (by decide) q_1082 rfl (xflds_ref rfl) dX10_counts_10 ?_
    refine j_bipush (pc := 13) (v := 64) (by decide) E dX10_counts_13 ?_
    refine j_iload_n (pc := 15) rfl 1 rfl E dX10_counts_15 ?_
    refine j_iadd (pc := 16) E dX10_counts_16 ?_
    refine j_iald (pc := 17) E s_86 dX10_counts_17 ?_
    refine j_aload_n (pc := 18) rfl 0 rfl E dX10_counts_18 ?_
    refine j_get (pc := 19) E xuX10 rfl s_85 (k := 5) (by decide) q_1087 rfl (xflds_ref rfl) dX10_counts_19 ?_
    refine j_aload_n (pc := 22) rfl 0 rfl E dX10_counts_22 ?_
    refine j_get (pc := 23) E xuX10 rfl s_85 (k := 6) (by decide) q_1088 rfl (xflds_int rfl) dX10_counts_23 ?_
    refine JF.xb (fun y4 m5 h6 => ?_)
    refine j_callVi (pc := 26) (st := []) E (kX10_countedBy xr_90 h6) mv_X10_countedBy rfl s_85 q_1277 [.int (m2 86 (64 + p1).toNatClampNeg), .ref (xa X 90), .int (m2 85 6)] rfl rfl rfl (by decide) (Nat.le_of_ble_eq_true rfl) dX10_counts_26 ?_
    refine j_goto (pc := 29) (tgt := 34) E dX10_counts_29 (by decide) ?_
    exact j_iret (pc := 34) E R dX10_counts_34
def fX10_scans (N : Nat) (σ : XS) : Option XO := xB (fX10_isScanned N σ 90 (σ 85 6)) (fun y1 m2 => if y1 = 0 then some (0, m2) else some (1, m2))
set_option maxRecDepth 100000 in
set_option maxHeartbeats 4000000 in
theorem kX10_scans {N : Nat} {σ : XS} {o : XO} (h : fX10_scans N σ = some o) : CtI yX10_scans cX10_scans 1 (some .int) 2 48 (fun Am ad => [.ref (Am 85)]) σ o := by
  refine ct_int (by decide) (fun _ _ => Nat.le_of_ble_eq_true rfl) (fun X E R => ?_)
  rw [← h]
  show JF X o 1 0 [(0, .ref (xa X 85))] [] σ (xB (fX10_isScanned N σ 90 (σ 85 6)) (fun y1 m2 => if y1 = 0 then some (0, m2) else some (1, m2)))
  refine j_aload_n (pc := 0) rfl 0 rfl E dX10_scans_0 ?_
  refine j_aload_n (pc := 1) rfl 0 rfl E dX10_scans_1 ?_
  refine j_get (pc := 2) E xuX10 rfl s_85 (k := 5) (by decide) q_1087 rfl (xflds_ref rfl) dX10_scans_2 ?_
  refine j_aload_n (pc := 5) rfl 0 rfl E dX10_scans_5 ?_
  refine j_get (pc := 6) E xuX10 rfl s_85 (k := 6) (by decide) q_1088 rfl (xflds_int rfl) dX10_scans_6 ?_
  refine JF.xb (fun y1 m2 h3 => ?_)
  refine j_callVi (pc := 9) (st := []) E (kX10_isScanned xr_90 h3) mv_X10_isScanned rfl s_85 q_1309 [.ref (xa X 90), .int (σ 85 6)] rfl rfl rfl (by decide) (Nat.le_of_ble_eq_true rfl) dX10_scans_9 ?_
  refine j_if_eq (pc := 12) (tgt := 19) E dX10_scans_12 (by decide) ?_ ?_
  · refine j_iconst (pc := 19) (v := 0) (by decide) E dX10_scans_19 ?_
    exact j_iret (pc := 20) E R dX10_scans_20
  · refine j_iconst (pc := 15) (v := 1) (by decide) E dX10_scans_15 ?_
    refine j_goto (pc := 16) (tgt := 20) E dX10_scans_16 (by decide) ?_
    exact j_iret (pc := 20) E R dX10_scans_20
def fX10_passes (N : Nat) (σ : XS) (p1 : Int32) (p2 : Int32) : Option XO := xB (fX10_areBoth N σ p1 p2) (fun y1 m2 => if y1 = 0 then some ((-2), m2) else xB (fX10_isPassed N m2 90 (m2 85 6) p1 p2) (fun y4 m5 => if y4 = 0 then some (0, m5) else some (1, m5)))
set_option maxRecDepth 100000 in
set_option maxHeartbeats 4000000 in
theorem kX10_passes {N : Nat} {σ : XS} {p1 : Int32} {p2 : Int32} {o : XO} (h : fX10_passes N σ p1 p2 = some o) : CtI yX10_passes cX10_passes 3 (some .int) 4 96 (fun Am ad => [.ref (Am 85), .int p1, .int p2]) σ o := by
  refine ct_int (by decide) (fun _ _ => Nat.le_of_ble_eq_true rfl) (fun X E R => ?_)
  rw [← h]
  show JF X o 3 0 [(0, .ref (xa X 85)), (1, .int p1), (2, .int p2)] [] σ (xB (fX10_areBoth N σ p1 p2) (fun y1 m2 => if y1 = 0 then some ((-2), m2) else xB (fX10_isPassed N m2 90 (m2 85 6) p1 p2) (fun y4 m5 => if y4 = 0 then some (0, m5) else some (1, m5))))
  refine j_aload_n (pc := 0) rfl 0 rfl E dX10_passes_0 ?_
  refine j_iload_n (pc := 1) rfl 1 rfl E dX10_passes_1 ?_
  refine j_iload_n (pc := 2) rfl 2 rfl E dX10_passes_2 ?_
  refine JF.xb (fun y1 m2 h3 => ?_)
  refine j_callVi (pc := 3) (st := []) E (kX10_areBoth h3) mv_X10_areBoth rfl s_85 q_1317 [.int p1, .int p2] rfl rfl rfl (by decide) (Nat.le_of_ble_eq_true rfl) dX10_passes_3 ?_
  refine j_if_ne (pc := 6) (tgt := 14) E dX10_passes_6 (by decide) ?_ ?_
  · refine j_bipush (pc := 9) (v := (-2)) (by decide) E dX10_passes_9 ?_
    refine j_goto (pc := 11) (tgt := 36) E dX10_passes_11 (by decide) ?_
    exact j_iret (pc := 36) E R dX10_passes_36
  · refine j_aload_n (pc := 14) rfl 0 rfl E dX10_passes_14 ?_
    refine j_aload_n (pc := 15) rfl 0 rfl E dX10_passes_15 ?_
    refine j_get (pc := 16) E xuX10 rfl s_85 (k := 5) (by decide) q_1087 rfl (xflds_ref rfl) dX10_passes_16 ?_
    refine j_aload_n (pc := 19) rfl 0 rfl E dX10_passes_19 ?_
    refine j_get (pc := 20) E xuX10 rfl s_85 (k := 6) (by decide) q_1088 rfl (xflds_int rfl) dX10_passes_20 ?_
    refine j_iload_n (pc := 23) rfl 1 rfl E dX10_passes_23 ?_
    refine j_iload_n (pc := 24) rfl 2 rfl E dX10_passes_24 ?_
    refine JF.xb (fun y4 m5 h6 => ?_)
    refine j_callVi (pc := 25) (st := []) E (kX10_isPassed xr_90 h6) mv_X10_isPassed rfl s_85 q_1321 [.ref (xa X 90), .int (m2 85 6), .int p1, .int p2] rfl rfl rfl (by decide) (Nat.le_of_ble_eq_true rfl) dX10_passes_25 ?_
    refine j_if_eq (pc := 28) (tgt := 35) E dX10_passes_28 (by decide) ?_ ?_
    · refine j_iconst (pc := 35) (v := 0) (by decide) E dX10_passes_35 ?_
      exact j_iret (pc := 36) E R dX10_passes_36
    · refine j_iconst (pc := 31) (v := 1) (by decide) E dX10_passes_31 ?_
      refine j_goto (pc := 32) (tgt := 36) E dX10_passes_32 (by decide) ?_
      exact j_iret (pc := 36) E R dX10_passes_36
def fX10_remembers_L51 (N : Nat) (k83 : XS → Option XO) : Nat → Int32 → XS → Option XO
  | 0, _, _ => none
  | n + 1, v1, σ => if 98 ≤ v1 then k83 σ else gd (xin v1 98) (xLet (xUp σ 87 ((98 * (σ 85 2)) + v1).toNatClampNeg (σ 86 v1.toNatClampNeg)) (fun m1 => gd (xin ((98 * (σ 85 2)) + v1) 784) (fX10_remembers_L51 N k83 n (v1 + 1) m1)))
set_option maxRecDepth 100000 in
set_option maxHeartbeats 4000000 in
theorem lX10_remembers_L51 (N : Nat) (k83 : XS → Option XO) {X : XC} {o : XO} (E : XE X cX10_remembers RX10 2 0 0) (R : XV X o cX10_remembers) (K83 : ∀ (σ : XS), JF X o 2 83 [(0, .ref (xa X 85))] [] σ (k83 σ)) : ∀ (n : Nat) (v1 : Int32) (σ : XS), JF X o 2 51 [(0, .ref (xa X 85)), (1, .int v1)] [] σ (fX10_remembers_L51 N k83 n v1 σ) := by
  intro n
  induction n with
  | zero => intro v1 σ; exact JF.none
  | succ n ih =>
    intro v1 σ
    show JF X o 2 51 [(0, .ref (xa X 85)), (1, .int v1)] [] σ (if 98 ≤ v1 then k83 σ else gd (xin v1 98) (xLet (xUp σ 87 ((98 * (σ 85 2)) + v1).toNatClampNeg (σ 86 v1.toNatClampNeg)) (fun m1 => gd (xin ((98 * (σ 85 2)) + v1) 784) (fX10_remembers_L51 N k83 n (v1 + 1) m1))))
    refine j_iload_n (pc := 51) rfl 1 rfl E dX10_remembers_51 ?_
    refine j_bipush (pc := 52) (v := 98) (by decide) E dX10_remembers_52 ?_
    refine j_icmp_ge (pc := 54) (tgt := 83) E dX10_remembers_54 (by decide) ?_ ?_
    · refine JF.sub [0] rfl ?_
      exact K83  σ
    · refine j_aload_n (pc := 57) rfl 0 rfl E dX10_remembers_57 ?_
      refine j_get (pc := 58) E xuX10 rfl s_85 (k := 1) (by decide) q_1083 rfl (xflds_ref rfl) dX10_remembers_58 ?_
      refine j_bipush (pc := 61) (v := 98) (by decide) E dX10_remembers_61 ?_
      refine j_aload_n (pc := 63) rfl 0 rfl E dX10_remembers_63 ?_
      refine j_get (pc := 64) E xuX10 rfl s_85 (k := 2) (by decide) q_1084 rfl (xflds_int rfl) dX10_remembers_64 ?_
      refine j_imul (pc := 67) E dX10_remembers_67 ?_
      refine j_iload_n (pc := 68) rfl 1 rfl E dX10_remembers_68 ?_
      refine j_iadd (pc := 69) E dX10_remembers_69 ?_
      refine j_aload_n (pc := 70) rfl 0 rfl E dX10_remembers_70 ?_
      refine j_get (pc := 71) E xuX10 rfl s_85 (k := 0) (by decide) q_1082 rfl (xflds_ref rfl) dX10_remembers_71 ?_
      refine j_iload_n (pc := 74) rfl 1 rfl E dX10_remembers_74 ?_
      refine j_iald (pc := 75) E s_86 dX10_remembers_75 ?_
      refine JF.xlet (fun m1 e2 => ?_)
      refine j_iast (pc := 76) E s_87 dX10_remembers_76 e2 ?_
      refine j_iinc (pc := 77) (v := (v1 + 1)) (lv1 := [(1, .int (v1 + 1)), (0, .ref (xa X 85))]) E dX10_remembers_77 1 rfl rfl (by decide) rfl ?_
      refine j_goto (pc := 80) (tgt := 51) E dX10_remembers_80 (by decide) ?_
      refine JF.sub [1, 0] rfl ?_
      exact ih (v1 + 1) m1
def fX10_remembers_J49 (N : Nat) (σ : XS) : Option XO := fX10_remembers_L51 N (fun m4 => xLet (xUp m4 85 2 ((m4 85 2) + 1)) (fun m5 => some (0, m5))) N 0 σ
set_option maxRecDepth 100000 in
set_option maxHeartbeats 4000000 in
theorem lX10_remembers_J49 (N : Nat) {X : XC} {o : XO} (E : XE X cX10_remembers RX10 2 0 0) (R : XV X o cX10_remembers) (σ : XS) : JF X o 2 49 [(0, .ref (xa X 85))] [] σ (fX10_remembers_J49 N σ) := by
  show JF X o 2 49 [(0, .ref (xa X 85))] [] σ (fX10_remembers_L51 N (fun m4 => xLet (xUp m4 85 2 ((m4 85 2) + 1)) (fun m5 => some (0, m5))) N 0 σ)
  refine j_iconst (pc := 49) (v := 0) (by decide) E dX10_remembers_49 ?_
  refine j_istore_n (pc := 50) (lv1 := [(1, .int 0), (0, .ref (xa X 85))]) E dX10_remembers_50 rfl (by decide) rfl ?_
  refine JF.sub [1, 0] rfl ?_
  refine lX10_remembers_L51 N _ E R (fun m4 => ?_) N 0 σ
  · refine j_aload_n (pc := 83) rfl 0 rfl E dX10_remembers_83 ?_
    refine j_dup (pc := 84) rfl E dX10_remembers_84 ?_
    refine j_get (pc := 85) E xuX10 rfl s_85 (k := 2) (by decide) q_1084 rfl (xflds_int rfl) dX10_remembers_85 ?_
    refine j_iconst (pc := 88) (v := 1) (by decide) E dX10_remembers_88 ?_
    refine j_iadd (pc := 89) E dX10_remembers_89 ?_
    refine JF.xlet (fun m5 e6 => ?_)
    refine j_put (pc := 90) E xuX10 tyX10 tyX10_ok nmX10 rfl s_85 rfl (k := 2) (by decide) q_1084 rfl rfl (ty := .int) (by decide +kernel) rfl rfl dX10_remembers_90 e6 ?_
    exact j_vret (pc := 93) E R dX10_remembers_93
def fX10_remembers_L11 (N : Nat) (k39 : XS → Option XO) : Nat → Int32 → XS → Option XO
  | 0, _, _ => none
  | n + 1, v1, σ => if 686 ≤ v1 then k39 σ else gd (xin (v1 + 98) 784) (xLet (xUp σ 87 v1.toNatClampNeg (σ 87 (v1 + 98).toNatClampNeg)) (fun m7 => gd (xin v1 784) (fX10_remembers_L11 N k39 n (v1 + 1) m7)))
set_option maxRecDepth 100000 in
set_option maxHeartbeats 4000000 in
theorem lX10_remembers_L11 (N : Nat) (k39 : XS → Option XO) {X : XC} {o : XO} (E : XE X cX10_remembers RX10 2 0 0) (R : XV X o cX10_remembers) (K39 : ∀ (σ : XS), JF X o 2 39 [(0, .ref (xa X 85))] [] σ (k39 σ)) : ∀ (n : Nat) (v1 : Int32) (σ : XS), JF X o 2 11 [(0, .ref (xa X 85)), (1, .int v1)] [] σ (fX10_remembers_L11 N k39 n v1 σ) := by
  intro n
  induction n with
  | zero => intro v1 σ; exact JF.none
  | succ n ih =>
    intro v1 σ
    show JF X o 2 11 [(0, .ref (xa X 85)), (1, .int v1)] [] σ (if 686 ≤ v1 then k39 σ else gd (xin (v1 + 98) 784) (xLet (xUp σ 87 v1.toNatClampNeg (σ 87 (v1 + 98).toNatClampNeg)) (fun m7 => gd (xin v1 784) (fX10_remembers_L11 N k39 n (v1 + 1) m7))))
    refine j_iload_n (pc := 11) rfl 1 rfl E dX10_remembers_11 ?_
    refine j_sipush (pc := 12) (v := 686) (by decide) E dX10_remembers_12 ?_
    refine j_icmp_ge (pc := 15) (tgt := 39) E dX10_remembers_15 (by decide) ?_ ?_
    · refine JF.sub [0] rfl ?_
      exact K39  σ
    · refine j_aload_n (pc := 18) rfl 0 rfl E dX10_remembers_18 ?_
      refine j_get (pc := 19) E xuX10 rfl s_85 (k := 1) (by decide) q_1083 rfl (xflds_ref rfl) dX10_remembers_19 ?_
      refine j_iload_n (pc := 22) rfl 1 rfl E dX10_remembers_22 ?_
      refine j_aload_n (pc := 23) rfl 0 rfl E dX10_remembers_23 ?_
      refine j_get (pc := 24) E xuX10 rfl s_85 (k := 1) (by decide) q_1083 rfl (xflds_ref rfl) dX10_remembers_24 ?_
      refine j_iload_n (pc := 27) rfl 1 rfl E dX10_remembers_27 ?_
      refine j_bipush (pc := 28) (v := 98) (by decide) E dX10_remembers_28 ?_
      refine j_iadd (pc := 30) E dX10_remembers_30 ?_
      refine j_iald (pc := 31) E s_87 dX10_remembers_31 ?_
      refine JF.xlet (fun m7 e8 => ?_)
      refine j_iast (pc := 32) E s_87 dX10_remembers_32 e8 ?_
      refine j_iinc (pc := 33) (v := (v1 + 1)) (lv1 := [(1, .int (v1 + 1)), (0, .ref (xa X 85))]) E dX10_remembers_33 1 rfl rfl (by decide) rfl ?_
      refine j_goto (pc := 36) (tgt := 11) E dX10_remembers_36 (by decide) ?_
      refine JF.sub [1, 0] rfl ?_
      exact ih (v1 + 1) m7
def fX10_remembers (N : Nat) (σ : XS) : Option XO := if (σ 85 2) = 8 then fX10_remembers_L11 N (fun m10 => xLet (xUp m10 85 2 ((m10 85 2) - 1)) (fun m11 => fX10_remembers_J49 N m11)) N 0 σ else fX10_remembers_J49 N σ
set_option maxRecDepth 100000 in
set_option maxHeartbeats 4000000 in
theorem kX10_remembers {N : Nat} {σ : XS} {o : XO} (h : fX10_remembers N σ = some o) : CtV yX10_remembers cX10_remembers 2 none 0 0 (fun Am ad => [.ref (Am 85)]) σ o := by
  refine ct_void (by decide) (fun _ _ => Nat.le_of_ble_eq_true rfl) (fun X E R => ?_)
  rw [← h]
  show JF X o 2 0 [(0, .ref (xa X 85))] [] σ (if (σ 85 2) = 8 then fX10_remembers_L11 N (fun m10 => xLet (xUp m10 85 2 ((m10 85 2) - 1)) (fun m11 => fX10_remembers_J49 N m11)) N 0 σ else fX10_remembers_J49 N σ)
  refine j_aload_n (pc := 0) rfl 0 rfl E dX10_remembers_0 ?_
  refine j_get (pc := 1) E xuX10 rfl s_85 (k := 2) (by decide) q_1084 rfl (xflds_int rfl) dX10_remembers_1 ?_
  refine j_bipush (pc := 4) (v := 8) (by decide) E dX10_remembers_4 ?_
  refine j_icmp_ne (pc := 6) (tgt := 49) E dX10_remembers_6 (by decide) ?_ ?_
  · refine j_iconst (pc := 9) (v := 0) (by decide) E dX10_remembers_9 ?_
    refine j_istore_n (pc := 10) (lv1 := [(1, .int 0), (0, .ref (xa X 85))]) E dX10_remembers_10 rfl (by decide) rfl ?_
    refine JF.sub [1, 0] rfl ?_
    refine lX10_remembers_L11 N _ E R (fun m10 => ?_) N 0 σ
    · refine j_aload_n (pc := 39) rfl 0 rfl E dX10_remembers_39 ?_
      refine j_dup (pc := 40) rfl E dX10_remembers_40 ?_
      refine j_get (pc := 41) E xuX10 rfl s_85 (k := 2) (by decide) q_1084 rfl (xflds_int rfl) dX10_remembers_41 ?_
      refine j_iconst (pc := 44) (v := 1) (by decide) E dX10_remembers_44 ?_
      refine j_isub (pc := 45) E dX10_remembers_45 ?_
      refine JF.xlet (fun m11 e12 => ?_)
      refine j_put (pc := 46) E xuX10 tyX10 tyX10_ok nmX10 rfl s_85 rfl (k := 2) (by decide) q_1084 rfl rfl (ty := .int) (by decide +kernel) rfl rfl dX10_remembers_46 e12 ?_
      refine JF.sub [0] rfl ?_
      exact lX10_remembers_J49 N E R m11
  · refine JF.sub [0] rfl ?_
    exact lX10_remembers_J49 N E R σ
def fX10_pays (N : Nat) (σ : XS) (p1 : Int32) (p2 : Int32) (p3 : Int32) : Option XO := xLet (xUp σ 86 ((46 + (3 * p1)) + 2).toNatClampNeg p2) (fun m1 => gd (xin ((46 + (3 * p1)) + 2) 98) (gd (xin 5 98) (xLet (xUp m1 86 (5 : Int32).toNatClampNeg ((m1 86 (5 : Int32).toNatClampNeg) + p3)) (fun m4 => gd (xin 5 98) (gd (xin 4 98) (xLet (xUp m4 86 (4 : Int32).toNatClampNeg ((m4 86 (4 : Int32).toNatClampNeg) + 1)) (fun m7 => gd (xin 4 98) (some (p3, m7)))))))))
set_option maxRecDepth 100000 in
set_option maxHeartbeats 4000000 in
theorem kX10_pays {N : Nat} {σ : XS} {p1 : Int32} {p2 : Int32} {p3 : Int32} {o : XO} (h : fX10_pays N σ p1 p2 p3 = some o) : CtI yX10_pays cX10_pays 4 (some .int) 0 0 (fun Am ad => [.ref (Am 85), .int p1, .int p2, .int p3]) σ o := by
  refine ct_int (by decide) (fun _ _ => Nat.le_of_ble_eq_true rfl) (fun X E R => ?_)
  rw [← h]
  show JF X o 4 0 [(0, .ref (xa X 85)), (1, .int p1), (2, .int p2), (3, .int p3)] [] σ (xLet (xUp σ 86 ((46 + (3 * p1)) + 2).toNatClampNeg p2) (fun m1 => gd (xin ((46 + (3 * p1)) + 2) 98) (gd (xin 5 98) (xLet (xUp m1 86 (5 : Int32).toNatClampNeg ((m1 86 (5 : Int32).toNatClampNeg) + p3)) (fun m4 => gd (xin 5 98) (gd (xin 4 98) (xLet (xUp m4 86 (4 : Int32).toNatClampNeg ((m4 86 (4 : Int32).toNatClampNeg) + 1)) (fun m7 => gd (xin 4 98) (some (p3, m7))))))))))
  refine j_aload_n (pc := 0) rfl 0 rfl E dX10_pays_0 ?_
  refine j_get (pc := 1) E xuX10 rfl s_85 (k := 0) (by decide) q_1082 rfl (xflds_ref rfl) dX10_pays_1 ?_
  refine j_bipush (pc := 4) (v := 46) (by decide) E dX10_pays_4 ?_
  refine j_iconst (pc := 6) (v := 3) (by decide) E dX10_pays_6 ?_
  refine j_iload_n (pc := 7) rfl 1 rfl E dX10_pays_7 ?_
  refine j_imul (pc := 8) E dX10_pays_8 ?_
  refine j_iadd (pc := 9) E dX10_pays_9 ?_
  refine j_iconst (pc := 10) (v := 2) (by decide) E dX10_pays_10 ?_
  refine j_iadd (pc := 11) E dX10_pays_11 ?_
  refine j_iload_n (pc := 12) rfl 2 rfl E dX10_pays_12 ?_
  refine JF.xlet (fun m1 e2 => ?_)
  refine j_iast (pc := 13) E s_86 dX10_pays_13 e2 ?_
  refine j_aload_n (pc := 14) rfl 0 rfl E dX10_pays_14 ?_
  refine j_get (pc := 15) E xuX10 rfl s_85 (k := 0) (by decide) q_1082 rfl (xflds_ref rfl) dX10_pays_15 ?_
  refine j_iconst (pc := 18) (v := 5) (by decide) E dX10_pays_18 ?_
  refine j_dup2 (pc := 19) rfl rfl E dX10_pays_19 ?_
  refine j_iald (pc := 20) E s_86 dX10_pays_20 ?_
  refine j_iload_n (pc := 21) rfl 3 rfl E dX10_pays_21 ?_
  refine j_iadd (pc := 22) E dX10_pays_22 ?_
  refine JF.xlet (fun m4 e5 => ?_)
  refine j_iast (pc := 23) E s_86 dX10_pays_23 e5 ?_
  refine j_aload_n (pc := 24) rfl 0 rfl E dX10_pays_24 ?_
  refine j_get (pc := 25) E xuX10 rfl s_85 (k := 0) (by decide) q_1082 rfl (xflds_ref rfl) dX10_pays_25 ?_
  refine j_iconst (pc := 28) (v := 4) (by decide) E dX10_pays_28 ?_
  refine j_dup2 (pc := 29) rfl rfl E dX10_pays_29 ?_
  refine j_iald (pc := 30) E s_86 dX10_pays_30 ?_
  refine j_iconst (pc := 31) (v := 1) (by decide) E dX10_pays_31 ?_
  refine j_iadd (pc := 32) E dX10_pays_32 ?_
  refine JF.xlet (fun m7 e8 => ?_)
  refine j_iast (pc := 33) E s_86 dX10_pays_33 e8 ?_
  refine j_iload_n (pc := 34) rfl 3 rfl E dX10_pays_34 ?_
  exact j_iret (pc := 35) E R dX10_pays_35
def fX10_declare_J164 (N : Nat) (v1 : Int32) (v3 : Int32) (t0 : Int32) (t1 : Int32) (σ : XS) : Option XO := if v3 = 0 then xB (fX10_pays N σ t1 t0 0) (fun y10 m11 => some (y10, m11)) else gd (xin (46 + (3 * v1)) 98) (xB (fX10_pays N σ t1 t0 (σ 86 (46 + (3 * v1)).toNatClampNeg)) (fun y13 m14 => some (y13, m14)))
set_option maxRecDepth 100000 in
set_option maxHeartbeats 4000000 in
theorem lX10_declare_J164 (N : Nat) (v1 : Int32) (v3 : Int32) (t0 : Int32) (t1 : Int32) {X : XC} {o : XO} (E : XE X cX10_declare RX10 5 4 96) (R : XI X o cX10_declare) (σ : XS) : JF X o 5 164 [(0, .ref (xa X 85)), (1, .int v1), (3, .int v3)] [.int t0, .int t1, .ref (xa X 85)] σ (fX10_declare_J164 N v1 v3 t0 t1 σ) := by
  show JF X o 5 164 [(0, .ref (xa X 85)), (1, .int v1), (3, .int v3)] [.int t0, .int t1, .ref (xa X 85)] σ (if v3 = 0 then xB (fX10_pays N σ t1 t0 0) (fun y10 m11 => some (y10, m11)) else gd (xin (46 + (3 * v1)) 98) (xB (fX10_pays N σ t1 t0 (σ 86 (46 + (3 * v1)).toNatClampNeg)) (fun y13 m14 => some (y13, m14))))
  refine j_iload_n (pc := 164) rfl 2 rfl E dX10_declare_164 ?_
  refine j_if_eq (pc := 165) (tgt := 182) E dX10_declare_165 (by decide) ?_ ?_
  · refine j_iconst (pc := 182) (v := 0) (by decide) E dX10_declare_182 ?_
    refine JF.xb (fun y10 m11 h12 => ?_)
    refine j_callVi (pc := 183) (st := []) E (kX10_pays h12) mv_X10_pays rfl s_85 q_1341 [.int t1, .int t0, .int 0] rfl rfl rfl (by decide) (Nat.le_of_ble_eq_true rfl) dX10_declare_183 ?_
    exact j_iret (pc := 186) E R dX10_declare_186
  · refine j_aload_n (pc := 168) rfl 0 rfl E dX10_declare_168 ?_
    refine j_get (pc := 169) E xuX10 rfl s_85 (k := 0) (by decide) q_1082 rfl (xflds_ref rfl) dX10_declare_169 ?_
    refine j_bipush (pc := 172) (v := 46) (by decide) E dX10_declare_172 ?_
    refine j_iconst (pc := 174) (v := 3) (by decide) E dX10_declare_174 ?_
    refine j_iload_n (pc := 175) rfl 1 rfl E dX10_declare_175 ?_
    refine j_imul (pc := 176) E dX10_declare_176 ?_
    refine j_iadd (pc := 177) E dX10_declare_177 ?_
    refine j_iald (pc := 178) E s_86 dX10_declare_178 ?_
    refine j_goto (pc := 179) (tgt := 183) E dX10_declare_179 (by decide) ?_
    refine JF.xb (fun y13 m14 h15 => ?_)
    refine j_callVi (pc := 183) (st := []) E (kX10_pays h15) mv_X10_pays rfl s_85 q_1341 [.int t1, .int t0, .int (σ 86 (46 + (3 * v1)).toNatClampNeg)] rfl rfl rfl (by decide) (Nat.le_of_ble_eq_true rfl) dX10_declare_183 ?_
    exact j_iret (pc := 186) E R dX10_declare_186
def fX10_declare_J153 (N : Nat) (v1 : Int32) (v3 : Int32) (σ : XS) : Option XO := if v3 = 0 then fX10_declare_J164 N v1 v3 2 v1 σ else fX10_declare_J164 N v1 v3 1 v1 σ
set_option maxRecDepth 100000 in
set_option maxHeartbeats 4000000 in
theorem lX10_declare_J153 (N : Nat) (v1 : Int32) (v3 : Int32) {X : XC} {o : XO} (E : XE X cX10_declare RX10 5 4 96) (R : XI X o cX10_declare) (σ : XS) : JF X o 5 153 [(0, .ref (xa X 85)), (1, .int v1), (3, .int v3)] [] σ (fX10_declare_J153 N v1 v3 σ) := by
  show JF X o 5 153 [(0, .ref (xa X 85)), (1, .int v1), (3, .int v3)] [] σ (if v3 = 0 then fX10_declare_J164 N v1 v3 2 v1 σ else fX10_declare_J164 N v1 v3 1 v1 σ)
  refine j_aload_n (pc := 153) rfl 0 rfl E dX10_declare_153 ?_
  refine j_iload_n (pc := 154) rfl 1 rfl E dX10_declare_154 ?_
  refine j_iload_n (pc := 155) rfl 2 rfl E dX10_declare_155 ?_
  refine j_if_eq (pc := 156) (tgt := 163) E dX10_declare_156 (by decide) ?_ ?_
  · refine j_iconst (pc := 163) (v := 2) (by decide) E dX10_declare_163 ?_
    refine JF.sub [0, 1, 2] rfl ?_
    exact lX10_declare_J164 N v1 v3 2 v1 E R σ
  · refine j_iconst (pc := 159) (v := 1) (by decide) E dX10_declare_159 ?_
    refine j_goto (pc := 160) (tgt := 164) E dX10_declare_160 (by decide) ?_
    refine JF.sub [0, 1, 2] rfl ?_
    exact lX10_declare_J164 N v1 v3 1 v1 E R σ
def fX10_declare_J151 (N : Nat) (v1 : Int32) (v3 : Int32) (t0 : Int32) (t1 : Int32) (t2 : Int32) (σ : XS) : Option XO := xLet (xUp σ 86 t2.toNatClampNeg (t1 + t0)) (fun m20 => gd (xin t2 98) (fX10_declare_J153 N v1 v3 m20))
set_option maxRecDepth 100000 in
set_option maxHeartbeats 4000000 in
theorem lX10_declare_J151 (N : Nat) (v1 : Int32) (v3 : Int32) (t0 : Int32) (t1 : Int32) (t2 : Int32) {X : XC} {o : XO} (E : XE X cX10_declare RX10 5 4 96) (R : XI X o cX10_declare) (σ : XS) : JF X o 5 151 [(0, .ref (xa X 85)), (1, .int v1), (3, .int v3)] [.int t0, .int t1, .int t2, .ref (xa X 86)] σ (fX10_declare_J151 N v1 v3 t0 t1 t2 σ) := by
  show JF X o 5 151 [(0, .ref (xa X 85)), (1, .int v1), (3, .int v3)] [.int t0, .int t1, .int t2, .ref (xa X 86)] σ (xLet (xUp σ 86 t2.toNatClampNeg (t1 + t0)) (fun m20 => gd (xin t2 98) (fX10_declare_J153 N v1 v3 m20)))
  refine j_iadd (pc := 151) E dX10_declare_151 ?_
  refine JF.xlet (fun m20 e21 => ?_)
  refine j_iast (pc := 152) E s_86 dX10_declare_152 e21 ?_
  refine JF.sub [0, 1, 2] rfl ?_
  exact lX10_declare_J153 N v1 v3 E R m20
def fX10_declare_J95 (N : Nat) (v1 : Int32) (t0 : Int32) (σ : XS) : Option XO := if t0 = 0 then fX10_declare_J153 N v1 t0 σ else gd (xin ((σ 85 6) - 1) 6) (xLetI (σ 90 ((σ 85 6) - 1).toNatClampNeg) (fun x16 => gd (xin ((6 + (4 * x16)) + 3) 98) (gd (xin (67 + (σ 86 ((6 + (4 * x16)) + 3).toNatClampNeg)) 98) (xB (fX10_kindOf N σ x16) (fun y17 m18 => if y17 = 2 then fX10_declare_J151 N v1 t0 0 (σ 86 (67 + (σ 86 ((6 + (4 * x16)) + 3).toNatClampNeg)).toNatClampNeg) (67 + (σ 86 ((6 + (4 * x16)) + 3).toNatClampNeg)) m18 else fX10_declare_J151 N v1 t0 1 (σ 86 (67 + (σ 86 ((6 + (4 * x16)) + 3).toNatClampNeg)).toNatClampNeg) (67 + (σ 86 ((6 + (4 * x16)) + 3).toNatClampNeg)) m18)))))
set_option maxRecDepth 100000 in
set_option maxHeartbeats 4000000 in
theorem lX10_declare_J95 (N : Nat) (v1 : Int32) (t0 : Int32) {X : XC} {o : XO} (E : XE X cX10_declare RX10 5 4 96) (R : XI X o cX10_declare) (σ : XS) : JF X o 5 95 [(0, .ref (xa X 85)), (1, .int v1)] [.int t0] σ (fX10_declare_J95 N v1 t0 σ) := by
  show JF X o 5 95 [(0, .ref (xa X 85)), (1, .int v1)] [.int t0] σ (if t0 = 0 then fX10_declare_J153 N v1 t0 σ else gd (xin ((σ 85 6) - 1) 6) (xLetI (σ 90 ((σ 85 6) - 1).toNatClampNeg) (fun x16 => gd (xin ((6 + (4 * x16)) + 3) 98) (gd (xin (67 + (σ 86 ((6 + (4 * x16)) + 3).toNatClampNeg)) 98) (xB (fX10_kindOf N σ x16) (fun y17 m18 => if y17 = 2 then fX10_declare_J151 N v1 t0 0 (σ 86 (67 + (σ 86 ((6 + (4 * x16)) + 3).toNatClampNeg)).toNatClampNeg) (67 + (σ 86 ((6 + (4 * x16)) + 3).toNatClampNeg)) m18 else fX10_declare_J151 N v1 t0 1 (σ 86 (67 + (σ 86 ((6 + (4 * x16)) + 3).toNatClampNeg)).toNatClampNeg) (67 + (σ 86 ((6 + (4 * x16)) + 3).toNatClampNeg)) m18))))))
  refine j_istore_n (pc := 95) (lv1 := [(3, .int t0), (0, .ref (xa X 85)), (1, .int v1)]) E dX10_declare_95 rfl (by decide) rfl ?_
  refine j_iload_n (pc := 96) rfl 0 rfl E dX10_declare_96 ?_
  refine j_if_eq (pc := 97) (tgt := 153) E dX10_declare_97 (by decide) ?_ ?_
  · refine JF.sub [1, 2, 0] rfl ?_
    exact lX10_declare_J153 N v1 t0 E R σ
  · refine j_aload_n (pc := 100) rfl 1 rfl E dX10_declare_100 ?_
    refine j_get (pc := 101) E xuX10 rfl s_85 (k := 5) (by decide) q_1087 rfl (xflds_ref rfl) dX10_declare_101 ?_
    refine j_aload_n (pc := 104) rfl 1 rfl E dX10_declare_104 ?_
    refine j_get (pc := 105) E xuX10 rfl s_85 (k := 6) (by decide) q_1088 rfl (xflds_int rfl) dX10_declare_105 ?_
    refine j_iconst (pc := 108) (v := 1) (by decide) E dX10_declare_108 ?_
    refine j_isub (pc := 109) E dX10_declare_109 ?_
    refine j_iald (pc := 110) E s_90 dX10_declare_110 ?_
    refine JF.xletI (fun x16 => ?_)
    refine j_istore (pc := 111) (lv1 := [(4, .int x16), (3, .int t0), (0, .ref (xa X 85)), (1, .int v1)]) E dX10_declare_111 (by decide) rfl ?_
    refine j_aload_n (pc := 113) rfl 2 rfl E dX10_declare_113 ?_
    refine j_get (pc := 114) E xuX10 rfl s_85 (k := 0) (by decide) q_1082 rfl (xflds_ref rfl) dX10_declare_114 ?_
    refine j_bipush (pc := 117) (v := 67) (by decide) E dX10_declare_117 ?_
    refine j_aload_n (pc := 119) rfl 2 rfl E dX10_declare_119 ?_
    refine j_get (pc := 120) E xuX10 rfl s_85 (k := 0) (by decide) q_1082 rfl (xflds_ref rfl) dX10_declare_120 ?_
    refine j_bipush (pc := 123) (v := 6) (by decide) E dX10_declare_123 ?_
    refine j_iconst (pc := 125) (v := 4) (by decide) E dX10_declare_125 ?_
    refine j_iload (pc := 126) 0 rfl E dX10_declare_126 ?_
    refine j_imul (pc := 128) E dX10_declare_128 ?_
    refine j_iadd (pc := 129) E dX10_declare_129 ?_
    refine j_iconst (pc := 130) (v := 3) (by decide) E dX10_declare_130 ?_
    refine j_iadd (pc := 131) E dX10_declare_131 ?_
    refine j_iald (pc := 132) E s_86 dX10_declare_132 ?_
    refine j_iadd (pc := 133) E dX10_declare_133 ?_
    refine j_dup2 (pc := 134) rfl rfl E dX10_declare_134 ?_
    refine j_iald (pc := 135) E s_86 dX10_declare_135 ?_
    refine j_aload_n (pc := 136) rfl 2 rfl E dX10_declare_136 ?_
    refine j_iload (pc := 137) 0 rfl E dX10_declare_137 ?_
    refine JF.xb (fun y17 m18 h19 => ?_)
    refine j_callVi (pc := 139) (st := [.int (σ 86 (67 + (σ 86 ((6 + (4 * x16)) + 3).toNatClampNeg)).toNatClampNeg), .int (67 + (σ 86 ((6 + (4 * x16)) + 3).toNatClampNeg)), .ref (xa X 86)]) E (kX10_kindOf h19) mv_X10_kindOf rfl s_85 q_1269 [.int x16] rfl rfl rfl (by decide) (Nat.le_of_ble_eq_true rfl) dX10_declare_139 ?_
    refine j_iconst (pc := 142) (v := 2) (by decide) E dX10_declare_142 ?_
    refine j_icmp_ne (pc := 143) (tgt := 150) E dX10_declare_143 (by decide) ?_ ?_
    · refine j_iconst (pc := 146) (v := 0) (by decide) E dX10_declare_146 ?_
      refine j_goto (pc := 147) (tgt := 151) E dX10_declare_147 (by decide) ?_
      refine JF.sub [2, 3, 1] rfl ?_
      exact lX10_declare_J151 N v1 t0 0 (σ 86 (67 + (σ 86 ((6 + (4 * x16)) + 3).toNatClampNeg)).toNatClampNeg) (67 + (σ 86 ((6 + (4 * x16)) + 3).toNatClampNeg)) E R m18
    · refine j_iconst (pc := 150) (v := 1) (by decide) E dX10_declare_150 ?_
      refine JF.sub [2, 3, 1] rfl ?_
      exact lX10_declare_J151 N v1 t0 1 (σ 86 (67 + (σ 86 ((6 + (4 * x16)) + 3).toNatClampNeg)).toNatClampNeg) (67 + (σ 86 ((6 + (4 * x16)) + 3).toNatClampNeg)) E R m18
def fX10_declare_J94 (N : Nat) (v1 : Int32) (σ : XS) : Option XO := fX10_declare_J95 N v1 0 σ
set_option maxRecDepth 100000 in
set_option maxHeartbeats 4000000 in
theorem lX10_declare_J94 (N : Nat) (v1 : Int32) {X : XC} {o : XO} (E : XE X cX10_declare RX10 5 4 96) (R : XI X o cX10_declare) (σ : XS) : JF X o 5 94 [(0, .ref (xa X 85)), (1, .int v1)] [] σ (fX10_declare_J94 N v1 σ) := by
  show JF X o 5 94 [(0, .ref (xa X 85)), (1, .int v1)] [] σ (fX10_declare_J95 N v1 0 σ)
  refine j_iconst (pc := 94) (v := 0) (by decide) E dX10_declare_94 ?_
  refine JF.sub [0, 1] rfl ?_
  exact lX10_declare_J95 N v1 0 E R σ
def fX10_declare (N : Nat) (σ : XS) (p1 : Int32) (p2 : Int32) : Option XO := xB (fX10_areBoth N σ p1 p2) (fun y1 m2 => if y1 = 0 then some ((-2), m2) else gd (xin ((46 + (3 * p1)) + 2) 98) (if (m2 86 ((46 + (3 * p1)) + 2).toNatClampNeg) = 0 then gd (xin 4 98) (if (m2 86 (4 : Int32).toNatClampNeg) = 99 then some ((-5), m2) else xB (fX10_remembers N m2) (fun _ m5 => xB (fX10_isPassed N m5 90 (m5 85 6) p1 p2) (fun y7 m8 => if y7 = 0 then fX10_declare_J94 N p1 m8 else gd (xin ((m8 85 6) - 1) 6) (xB (fX10_isWorn N m8 (m8 90 ((m8 85 6) - 1).toNatClampNeg) 86 67) (fun y23 m24 => if y23 = 0 then fX10_declare_J95 N p1 1 m24 else fX10_declare_J94 N p1 m24))))) else some ((-4), m2)))
set_option maxRecDepth 100000 in
set_option maxHeartbeats 4000000 in
theorem kX10_declare {N : Nat} {σ : XS} {p1 : Int32} {p2 : Int32} {o : XO} (h : fX10_declare N σ p1 p2 = some o) : CtI yX10_declare cX10_declare 5 (some .int) 4 96 (fun Am ad => [.ref (Am 85), .int p1, .int p2]) σ o := by
  refine ct_int (by decide) (fun _ _ => Nat.le_of_ble_eq_true rfl) (fun X E R => ?_)
  rw [← h]
  show JF X o 5 0 [(0, .ref (xa X 85)), (1, .int p1), (2, .int p2)] [] σ (xB (fX10_areBoth N σ p1 p2) (fun y1 m2 => if y1 = 0 then some ((-2), m2) else gd (xin ((46 + (3 * p1)) + 2) 98) (if (m2 86 ((46 + (3 * p1)) + 2).toNatClampNeg) = 0 then gd (xin 4 98) (if (m2 86 (4 : Int32).toNatClampNeg) = 99 then some ((-5), m2) else xB (fX10_remembers N m2) (fun _ m5 => xB (fX10_isPassed N m5 90 (m5 85 6) p1 p2) (fun y7 m8 => if y7 = 0 then fX10_declare_J94 N p1 m8 else gd (xin ((m8 85 6) - 1) 6) (xB (fX10_isWorn N m8 (m8 90 ((m8 85 6) - 1).toNatClampNeg) 86 67) (fun y23 m24 => if y23 = 0 then fX10_declare_J95 N p1 1 m24 else fX10_declare_J94 N p1 m24))))) else some ((-4), m2))))
  refine j_aload_n (pc := 0) rfl 0 rfl E dX10_declare_0 ?_
  refine j_iload_n (pc := 1) rfl 1 rfl E dX10_declare_1 ?_
  refine j_iload_n (pc := 2) rfl 2 rfl E dX10_declare_2 ?_
  refine JF.xb (fun y1 m2 h3 => ?_)
  refine j_callVi (pc := 3) (st := []) E (kX10_areBoth h3) mv_X10_areBoth rfl s_85 q_1317 [.int p1, .int p2] rfl rfl rfl (by decide) (Nat.le_of_ble_eq_true rfl) dX10_declare_3 ?_
  refine j_if_ne (pc := 6) (tgt := 12) E dX10_declare_6 (by decide) ?_ ?_
  · refine j_bipush (pc := 9) (v := (-2)) (by decide) E dX10_declare_9 ?_
    exact j_iret (pc := 11) E R dX10_declare_11
  · refine j_aload_n (pc := 12) rfl 0 rfl E dX10_declare_12 ?_
    refine j_get (pc := 13) E xuX10 rfl s_85 (k := 0) (by decide) q_1082 rfl (xflds_ref rfl) dX10_declare_13 ?_
    refine j_bipush (pc := 16) (v := 46) (by decide) E dX10_declare_16 ?_
    refine j_iconst (pc := 18) (v := 3) (by decide) E dX10_declare_18 ?_
    refine j_iload_n (pc := 19) rfl 1 rfl E dX10_declare_19 ?_
    refine j_imul (pc := 20) E dX10_declare_20 ?_
    refine j_iadd (pc := 21) E dX10_declare_21 ?_
    refine j_iconst (pc := 22) (v := 2) (by decide) E dX10_declare_22 ?_
    refine j_iadd (pc := 23) E dX10_declare_23 ?_
    refine j_iald (pc := 24) E s_86 dX10_declare_24 ?_
    refine j_if_eq (pc := 25) (tgt := 31) E dX10_declare_25 (by decide) ?_ ?_
    · refine j_aload_n (pc := 31) rfl 0 rfl E dX10_declare_31 ?_
      refine j_get (pc := 32) E xuX10 rfl s_85 (k := 0) (by decide) q_1082 rfl (xflds_ref rfl) dX10_declare_32 ?_
      refine j_iconst (pc := 35) (v := 4) (by decide) E dX10_declare_35 ?_
      refine j_iald (pc := 36) E s_86 dX10_declare_36 ?_
      refine j_bipush (pc := 37) (v := 99) (by decide) E dX10_declare_37 ?_
      refine j_icmp_ne (pc := 39) (tgt := 45) E dX10_declare_39 (by decide) ?_ ?_
      · refine j_bipush (pc := 42) (v := (-5)) (by decide) E dX10_declare_42 ?_
        exact j_iret (pc := 44) E R dX10_declare_44
      · refine j_aload_n (pc := 45) rfl 0 rfl E dX10_declare_45 ?_
        refine JF.xb (fun y4 m5 h6 => ?_)
        refine j_callVv (pc := 46) (st := []) E (kX10_remembers h6) mv_X10_remembers rfl s_85 q_1333 [] rfl rfl rfl (by decide) (Nat.le_of_ble_eq_true rfl) dX10_declare_46 ?_
        refine j_aload_n (pc := 49) rfl 0 rfl E dX10_declare_49 ?_
        refine j_aload_n (pc := 50) rfl 0 rfl E dX10_declare_50 ?_
        refine j_get (pc := 51) E xuX10 rfl s_85 (k := 5) (by decide) q_1087 rfl (xflds_ref rfl) dX10_declare_51 ?_
        refine j_aload_n (pc := 54) rfl 0 rfl E dX10_declare_54 ?_
        refine j_get (pc := 55) E xuX10 rfl s_85 (k := 6) (by decide) q_1088 rfl (xflds_int rfl) dX10_declare_55 ?_
        refine j_iload_n (pc := 58) rfl 1 rfl E dX10_declare_58 ?_
        refine j_iload_n (pc := 59) rfl 2 rfl E dX10_declare_59 ?_
        refine JF.xb (fun y7 m8 h9 => ?_)
        refine j_callVi (pc := 60) (st := []) E (kX10_isPassed xr_90 h9) mv_X10_isPassed rfl s_85 q_1321 [.ref (xa X 90), .int (m5 85 6), .int p1, .int p2] rfl rfl rfl (by decide) (Nat.le_of_ble_eq_true rfl) dX10_declare_60 ?_
        refine j_if_eq (pc := 63) (tgt := 94) E dX10_declare_63 (by decide) ?_ ?_
        · refine JF.sub [0, 1] rfl ?_
          exact lX10_declare_J94 N p1 E R m8
        · refine j_aload_n (pc := 66) rfl 0 rfl E dX10_declare_66 ?_
          refine j_aload_n (pc := 67) rfl 0 rfl E dX10_declare_67 ?_
          refine j_get (pc := 68) E xuX10 rfl s_85 (k := 5) (by decide) q_1087 rfl (xflds_ref rfl) dX10_declare_68 ?_
          refine j_aload_n (pc := 71) rfl 0 rfl E dX10_declare_71 ?_
          refine j_get (pc := 72) E xuX10 rfl s_85 (k := 6) (by decide) q_1088 rfl (xflds_int rfl) dX10_declare_72 ?_
          refine j_iconst (pc := 75) (v := 1) (by decide) E dX10_declare_75 ?_
          refine j_isub (pc := 76) E dX10_declare_76 ?_
          refine j_iald (pc := 77) E s_90 dX10_declare_77 ?_
          refine j_aload_n (pc := 78) rfl 0 rfl E dX10_declare_78 ?_
          refine j_get (pc := 79) E xuX10 rfl s_85 (k := 0) (by decide) q_1082 rfl (xflds_ref rfl) dX10_declare_79 ?_
          refine j_bipush (pc := 82) (v := 67) (by decide) E dX10_declare_82 ?_
          refine JF.xb (fun y23 m24 h25 => ?_)
          refine j_callVi (pc := 84) (st := []) E (kX10_isWorn xr_86 h25) mv_X10_isWorn rfl s_85 q_1337 [.int (m8 90 ((m8 85 6) - 1).toNatClampNeg), .ref (xa X 86), .int 67] rfl rfl rfl (by decide) (Nat.le_of_ble_eq_true rfl) dX10_declare_84 ?_
          refine j_if_ne (pc := 87) (tgt := 94) E dX10_declare_87 (by decide) ?_ ?_
          · refine j_iconst (pc := 90) (v := 1) (by decide) E dX10_declare_90 ?_
            refine j_goto (pc := 91) (tgt := 95) E dX10_declare_91 (by decide) ?_
            refine JF.sub [0, 1] rfl ?_
            exact lX10_declare_J95 N p1 1 E R m24
          · refine JF.sub [0, 1] rfl ?_
            exact lX10_declare_J94 N p1 E R m24
    · refine j_bipush (pc := 28) (v := (-4)) (by decide) E dX10_declare_28 ?_
      exact j_iret (pc := 30) E R dX10_declare_30
