def fX10_altered_L70 (N : Nat) (v1 : Int32) (v2 : Int32) (v3 : Int32) (v4 : Int32) (v5 : Int32) (v6 : Int32) (k112 : Int32 → XS → Option XO) : Nat → Int32 → Int32 → XS → Option XO
  | 0, _, _, _ => none
  | n + 1, v7, v8, σ => if (σ 85 6) ≤ v8 then k112 v7 σ else gd (xin v8 6) (gd (xin v8 6) (if (σ 94 v8.toNatClampNeg) = (σ 90 v8.toNatClampNeg) then fX10_altered_L70 N v1 v2 v3 v4 v5 v6 k112 n (v7 + 0) (v8 + 1) σ else fX10_altered_L70 N v1 v2 v3 v4 v5 v6 k112 n (v7 + 1) (v8 + 1) σ))
set_option maxRecDepth 100000 in
set_option maxHeartbeats 4000000 in
theorem lX10_altered_L70 (N : Nat) (v1 : Int32) (v2 : Int32) (v3 : Int32) (v4 : Int32) (v5 : Int32) (v6 : Int32) (k112 : Int32 → XS → Option XO) {X : XC} {o : XO} (E : XE X cX10_altered RX10 9 4 96) (R : XI X o cX10_altered) (K112 : ∀ (v7 : Int32) (σ : XS), JF X o 9 112 [(0, .ref (xa X 85)), (1, .int v1), (2, .int v2), (3, .int v3), (4, .int v4), (5, .int v5), (6, .int v6), (7, .int v7)] [] σ (k112 v7 σ)) : ∀ (n : Nat) (v7 : Int32) (v8 : Int32) (σ : XS), JF X o 9 70 [(0, .ref (xa X 85)), (1, .int v1), (2, .int v2), (3, .int v3), (4, .int v4), (5, .int v5), (6, .int v6), (7, .int v7), (8, .int v8)] [] σ (fX10_altered_L70 N v1 v2 v3 v4 v5 v6 k112 n v7 v8 σ) := by
  intro n
  induction n with
  | zero => intro v7 v8 σ; exact JF.none
  | succ n ih =>
    intro v7 v8 σ
    show JF X o 9 70 [(0, .ref (xa X 85)), (1, .int v1), (2, .int v2), (3, .int v3), (4, .int v4), (5, .int v5), (6, .int v6), (7, .int v7), (8, .int v8)] [] σ (if (σ 85 6) ≤ v8 then k112 v7 σ else gd (xin v8 6) (gd (xin v8 6) (if (σ 94 v8.toNatClampNeg) = (σ 90 v8.toNatClampNeg) then fX10_altered_L70 N v1 v2 v3 v4 v5 v6 k112 n (v7 + 0) (v8 + 1) σ else fX10_altered_L70 N v1 v2 v3 v4 v5 v6 k112 n (v7 + 1) (v8 + 1) σ)))
    refine j_iload (pc := 70) 8 rfl E dX10_altered_70 ?_
    refine j_aload_n (pc := 72) rfl 0 rfl E dX10_altered_72 ?_
    refine j_get (pc := 73) E xuX10 rfl s_85 (k := 6) (by decide) q_1088 rfl (xflds_int rfl) dX10_altered_73 ?_
    refine j_icmp_ge (pc := 76) (tgt := 112) E dX10_altered_76 (by decide) ?_ ?_
    · refine JF.sub [0, 1, 2, 3, 4, 5, 6, 7] rfl ?_
      exact K112 v7 σ
    · refine j_iload (pc := 79) 7 rfl E dX10_altered_79 ?_
      refine j_aload_n (pc := 81) rfl 0 rfl E dX10_altered_81 ?_
      refine j_get (pc := 82) E xuX10 rfl s_85 (k := 21) (by decide) q_1103 rfl (xflds_ref rfl) dX10_altered_82 ?_
      refine j_iload (pc := 85) 8 rfl E dX10_altered_85 ?_
      refine j_iald (pc := 87) E s_94 dX10_altered_87 ?_
      refine j_aload_n (pc := 88) rfl 0 rfl E dX10_altered_88 ?_
      refine j_get (pc := 89) E xuX10 rfl s_85 (k := 5) (by decide) q_1087 rfl (xflds_ref rfl) dX10_altered_89 ?_
      refine j_iload (pc := 92) 8 rfl E dX10_altered_92 ?_
      refine j_iald (pc := 94) E s_90 dX10_altered_94 ?_
      refine j_icmp_ne (pc := 95) (tgt := 102) E dX10_altered_95 (by decide) ?_ ?_
      · refine j_iconst (pc := 98) (v := 0) (by decide) E dX10_altered_98 ?_
        refine j_goto (pc := 99) (tgt := 103) E dX10_altered_99 (by decide) ?_
        refine j_iadd (pc := 103) E dX10_altered_103 ?_
        refine j_istore (pc := 104) (lv1 := [(7, .int (v7 + 0)), (0, .ref (xa X 85)), (1, .int v1), (2, .int v2), (3, .int v3), (4, .int v4), (5, .int v5), (6, .int v6), (8, .int v8)]) E dX10_altered_104 (by decide) rfl ?_
        refine j_iinc (pc := 106) (v := (v8 + 1)) (lv1 := [(8, .int (v8 + 1)), (7, .int (v7 + 0)), (0, .ref (xa X 85)), (1, .int v1), (2, .int v2), (3, .int v3), (4, .int v4), (5, .int v5), (6, .int v6)]) E dX10_altered_106 8 rfl rfl (by decide) rfl ?_
        refine j_goto (pc := 109) (tgt := 70) E dX10_altered_109 (by decide) ?_
        refine JF.sub [2, 3, 4, 5, 6, 7, 8, 1, 0] rfl ?_
        exact ih (v7 + 0) (v8 + 1) σ
      · refine j_iconst (pc := 102) (v := 1) (by decide) E dX10_altered_102 ?_
        refine j_iadd (pc := 103) E dX10_altered_103 ?_
        refine j_istore (pc := 104) (lv1 := [(7, .int (v7 + 1)), (0, .ref (xa X 85)), (1, .int v1), (2, .int v2), (3, .int v3), (4, .int v4), (5, .int v5), (6, .int v6), (8, .int v8)]) E dX10_altered_104 (by decide) rfl ?_
        refine j_iinc (pc := 106) (v := (v8 + 1)) (lv1 := [(8, .int (v8 + 1)), (7, .int (v7 + 1)), (0, .ref (xa X 85)), (1, .int v1), (2, .int v2), (3, .int v3), (4, .int v4), (5, .int v5), (6, .int v6)]) E dX10_altered_106 8 rfl rfl (by decide) rfl ?_
        refine j_goto (pc := 109) (tgt := 70) E dX10_altered_109 (by decide) ?_
        refine JF.sub [2, 3, 4, 5, 6, 7, 8, 1, 0] rfl ?_
        exact ih (v7 + 1) (v8 + 1) σ
def fX10_altered_L149 (N : Nat) (v1 : Int32) (v2 : Int32) (v3 : Int32) (v4 : Int32) (v5 : Int32) (v6 : Int32) (k178 : XS → Option XO) : Nat → Int32 → XS → Option XO
  | 0, _, _ => none
  | n + 1, v8, σ => if (σ 85 6) ≤ v8 then k178 σ else gd (xin v8 6) (xLet (xUp σ 95 v8.toNatClampNeg (σ 94 v8.toNatClampNeg)) (fun m15 => gd (xin v8 6) (fX10_altered_L149 N v1 v2 v3 v4 v5 v6 k178 n (v8 + 1) m15)))
set_option maxRecDepth 100000 in
set_option maxHeartbeats 4000000 in
theorem lX10_altered_L149 (N : Nat) (v1 : Int32) (v2 : Int32) (v3 : Int32) (v4 : Int32) (v5 : Int32) (v6 : Int32) (k178 : XS → Option XO) {X : XC} {o : XO} (E : XE X cX10_altered RX10 9 4 96) (R : XI X o cX10_altered) (K178 : ∀ (σ : XS), JF X o 9 178 [(0, .ref (xa X 85)), (1, .int v1), (2, .int v2), (3, .int v3), (4, .int v4), (5, .int v5), (6, .int v6)] [] σ (k178 σ)) : ∀ (n : Nat) (v8 : Int32) (σ : XS), JF X o 9 149 [(0, .ref (xa X 85)), (1, .int v1), (2, .int v2), (3, .int v3), (4, .int v4), (5, .int v5), (6, .int v6), (8, .int v8)] [] σ (fX10_altered_L149 N v1 v2 v3 v4 v5 v6 k178 n v8 σ) := by
  intro n
  induction n with
  | zero => intro v8 σ; exact JF.none
  | succ n ih =>
    intro v8 σ
    show JF X o 9 149 [(0, .ref (xa X 85)), (1, .int v1), (2, .int v2), (3, .int v3), (4, .int v4), (5, .int v5), (6, .int v6), (8, .int v8)] [] σ (if (σ 85 6) ≤ v8 then k178 σ else gd (xin v8 6) (xLet (xUp σ 95 v8.toNatClampNeg (σ 94 v8.toNatClampNeg)) (fun m15 => gd (xin v8 6) (fX10_altered_L149 N v1 v2 v3 v4 v5 v6 k178 n (v8 + 1) m15))))
    refine j_iload (pc := 149) 7 rfl E dX10_altered_149 ?_
    refine j_aload_n (pc := 151) rfl 0 rfl E dX10_altered_151 ?_
    refine j_get (pc := 152) E xuX10 rfl s_85 (k := 6) (by decide) q_1088 rfl (xflds_int rfl) dX10_altered_152 ?_
    refine j_icmp_ge (pc := 155) (tgt := 178) E dX10_altered_155 (by decide) ?_ ?_
    · refine JF.sub [0, 1, 2, 3, 4, 5, 6] rfl ?_
      exact K178  σ
    · refine j_aload_n (pc := 158) rfl 0 rfl E dX10_altered_158 ?_
      refine j_get (pc := 159) E xuX10 rfl s_85 (k := 22) (by decide) q_1104 rfl (xflds_ref rfl) dX10_altered_159 ?_
      refine j_iload (pc := 162) 7 rfl E dX10_altered_162 ?_
      refine j_aload_n (pc := 164) rfl 0 rfl E dX10_altered_164 ?_
      refine j_get (pc := 165) E xuX10 rfl s_85 (k := 21) (by decide) q_1103 rfl (xflds_ref rfl) dX10_altered_165 ?_
      refine j_iload (pc := 168) 7 rfl E dX10_altered_168 ?_
      refine j_iald (pc := 170) E s_94 dX10_altered_170 ?_
      refine JF.xlet (fun m15 e16 => ?_)
      refine j_iast (pc := 171) E s_95 dX10_altered_171 e16 ?_
      refine j_iinc (pc := 172) (v := (v8 + 1)) (lv1 := [(8, .int (v8 + 1)), (0, .ref (xa X 85)), (1, .int v1), (2, .int v2), (3, .int v3), (4, .int v4), (5, .int v5), (6, .int v6)]) E dX10_altered_172 7 rfl rfl (by decide) rfl ?_
      refine j_goto (pc := 175) (tgt := 149) E dX10_altered_175 (by decide) ?_
      refine JF.sub [1, 2, 3, 4, 5, 6, 7, 0] rfl ?_
      exact ih (v8 + 1) m15
def fX10_altered_J125 (N : Nat) (v1 : Int32) (v2 : Int32) (v3 : Int32) (v4 : Int32) (v5 : Int32) (v6 : Int32) (v7 : Int32) (k47 : Int32 → Int32 → XS → Option XO) (σ : XS) : Option XO := xB (fX10_isPassed N σ 94 (σ 85 6) v1 v2) (fun y12 m13 => if y12 = 0 then k47 v4 (v6 + 1) m13 else fX10_altered_L149 N v1 v2 v3 v7 v5 v6 (fun m18 => k47 v7 (v6 + 1) m18) N 0 m13)
set_option maxRecDepth 100000 in
set_option maxHeartbeats 4000000 in
theorem lX10_altered_J125 (N : Nat) (v1 : Int32) (v2 : Int32) (v3 : Int32) (v4 : Int32) (v5 : Int32) (v6 : Int32) (v7 : Int32) (k47 : Int32 → Int32 → XS → Option XO) {X : XC} {o : XO} (E : XE X cX10_altered RX10 9 4 96) (R : XI X o cX10_altered) (K47 : ∀ (v4 : Int32) (v6 : Int32) (σ : XS), JF X o 9 47 [(0, .ref (xa X 85)), (1, .int v1), (2, .int v2), (3, .int v3), (4, .int v4), (5, .int v5), (6, .int v6)] [] σ (k47 v4 v6 σ)) (σ : XS) : JF X o 9 125 [(0, .ref (xa X 85)), (1, .int v1), (2, .int v2), (3, .int v3), (4, .int v4), (5, .int v5), (6, .int v6), (7, .int v7)] [] σ (fX10_altered_J125 N v1 v2 v3 v4 v5 v6 v7 k47 σ) := by
  show JF X o 9 125 [(0, .ref (xa X 85)), (1, .int v1), (2, .int v2), (3, .int v3), (4, .int v4), (5, .int v5), (6, .int v6), (7, .int v7)] [] σ (xB (fX10_isPassed N σ 94 (σ 85 6) v1 v2) (fun y12 m13 => if y12 = 0 then k47 v4 (v6 + 1) m13 else fX10_altered_L149 N v1 v2 v3 v7 v5 v6 (fun m18 => k47 v7 (v6 + 1) m18) N 0 m13))
  refine j_aload_n (pc := 125) rfl 0 rfl E dX10_altered_125 ?_
  refine j_aload_n (pc := 126) rfl 0 rfl E dX10_altered_126 ?_
  refine j_get (pc := 127) E xuX10 rfl s_85 (k := 21) (by decide) q_1103 rfl (xflds_ref rfl) dX10_altered_127 ?_
  refine j_aload_n (pc := 130) rfl 0 rfl E dX10_altered_130 ?_
  refine j_get (pc := 131) E xuX10 rfl s_85 (k := 6) (by decide) q_1088 rfl (xflds_int rfl) dX10_altered_131 ?_
  refine j_iload_n (pc := 134) rfl 1 rfl E dX10_altered_134 ?_
  refine j_iload_n (pc := 135) rfl 2 rfl E dX10_altered_135 ?_
  refine JF.xb (fun y12 m13 h14 => ?_)
  refine j_callVi (pc := 136) (st := []) E (kX10_isPassed xr_94 h14) mv_X10_isPassed rfl s_85 q_1321 [.ref (xa X 94), .int (σ 85 6), .int v1, .int v2] rfl rfl rfl (by decide) (Nat.le_of_ble_eq_true rfl) dX10_altered_136 ?_
  refine j_if_eq (pc := 139) (tgt := 178) E dX10_altered_139 (by decide) ?_ ?_
  · refine j_iinc (pc := 178) (v := (v6 + 1)) (lv1 := [(6, .int (v6 + 1)), (0, .ref (xa X 85)), (1, .int v1), (2, .int v2), (3, .int v3), (4, .int v4), (5, .int v5), (7, .int v7)]) E dX10_altered_178 6 rfl rfl (by decide) rfl ?_
    refine j_goto (pc := 181) (tgt := 47) E dX10_altered_181 (by decide) ?_
    refine JF.sub [1, 2, 3, 4, 5, 6, 0] rfl ?_
    exact K47 v4 (v6 + 1) m13
  · refine j_iload (pc := 142) 7 rfl E dX10_altered_142 ?_
    refine j_istore (pc := 144) (lv1 := [(4, .int v7), (0, .ref (xa X 85)), (1, .int v1), (2, .int v2), (3, .int v3), (5, .int v5), (6, .int v6), (7, .int v7)]) E dX10_altered_144 (by decide) rfl ?_
    refine j_iconst (pc := 146) (v := 0) (by decide) E dX10_altered_146 ?_
    refine j_istore (pc := 147) (lv1 := [(8, .int 0), (4, .int v7), (0, .ref (xa X 85)), (1, .int v1), (2, .int v2), (3, .int v3), (5, .int v5), (6, .int v6), (7, .int v7)]) E dX10_altered_147 (by decide) rfl ?_
    refine JF.sub [2, 3, 4, 5, 1, 6, 7, 0] rfl ?_
    refine lX10_altered_L149 N v1 v2 v3 v7 v5 v6 _ E R (fun m18 => ?_) N 0 m13
    · refine j_iinc (pc := 178) (v := (v6 + 1)) (lv1 := [(6, .int (v6 + 1)), (0, .ref (xa X 85)), (1, .int v1), (2, .int v2), (3, .int v3), (4, .int v7), (5, .int v5)]) E dX10_altered_178 6 rfl rfl (by decide) rfl ?_
      refine j_goto (pc := 181) (tgt := 47) E dX10_altered_181 (by decide) ?_
      refine JF.sub [1, 2, 3, 4, 5, 6, 0] rfl ?_
      exact K47 v7 (v6 + 1) m18
def fX10_altered_L47 (N : Nat) (v1 : Int32) (v2 : Int32) (v3 : Int32) (v5 : Int32) (k184 : Int32 → XS → Option XO) : Nat → Int32 → Int32 → XS → Option XO
  | 0, _, _, _ => none
  | n + 1, v4, v6, σ => if v5 ≤ v6 then k184 v4 σ else xB (fX10_lays N σ v6 (σ 85 6)) (fun _ m8 => fX10_altered_L70 N v1 v2 v3 v4 v5 v6 (fun x10 m11 => if v4 = (-1) then fX10_altered_J125 N v1 v2 v3 v4 v5 v6 x10 (fX10_altered_L47 N v1 v2 v3 v5 k184 n) m11 else if v4 ≤ x10 then fX10_altered_L47 N v1 v2 v3 v5 k184 n v4 (v6 + 1) m11 else fX10_altered_J125 N v1 v2 v3 v4 v5 v6 x10 (fX10_altered_L47 N v1 v2 v3 v5 k184 n) m11) N 0 0 m8)
set_option maxRecDepth 100000 in
set_option maxHeartbeats 4000000 in
theorem lX10_altered_L47 (N : Nat) (v1 : Int32) (v2 : Int32) (v3 : Int32) (v5 : Int32) (k184 : Int32 → XS → Option XO) {X : XC} {o : XO} (E : XE X cX10_altered RX10 9 4 96) (R : XI X o cX10_altered) (K184 : ∀ (v4 : Int32) (σ : XS), JF X o 9 184 [(0, .ref (xa X 85)), (3, .int v3), (4, .int v4)] [] σ (k184 v4 σ)) : ∀ (n : Nat) (v4 : Int32) (v6 : Int32) (σ : XS), JF X o 9 47 [(0, .ref (xa X 85)), (1, .int v1), (2, .int v2), (3, .int v3), (4, .int v4), (5, .int v5), (6, .int v6)] [] σ (fX10_altered_L47 N v1 v2 v3 v5 k184 n v4 v6 σ) := by
  intro n
  induction n with
  | zero => intro v4 v6 σ; exact JF.none
  | succ n ih =>
    intro v4 v6 σ
    show JF X o 9 47 [(0, .ref (xa X 85)), (1, .int v1), (2, .int v2), (3, .int v3), (4, .int v4), (5, .int v5), (6, .int v6)] [] σ (if v5 ≤ v6 then k184 v4 σ else xB (fX10_lays N σ v6 (σ 85 6)) (fun _ m8 => fX10_altered_L70 N v1 v2 v3 v4 v5 v6 (fun x10 m11 => if v4 = (-1) then fX10_altered_J125 N v1 v2 v3 v4 v5 v6 x10 (fX10_altered_L47 N v1 v2 v3 v5 k184 n) m11 else if v4 ≤ x10 then fX10_altered_L47 N v1 v2 v3 v5 k184 n v4 (v6 + 1) m11 else fX10_altered_J125 N v1 v2 v3 v4 v5 v6 x10 (fX10_altered_L47 N v1 v2 v3 v5 k184 n) m11) N 0 0 m8))
    refine j_iload (pc := 47) 6 rfl E dX10_altered_47 ?_
    refine j_iload (pc := 49) 5 rfl E dX10_altered_49 ?_
    refine j_icmp_ge (pc := 51) (tgt := 184) E dX10_altered_51 (by decide) ?_ ?_
    · refine JF.sub [0, 3, 4] rfl ?_
      exact K184 v4 σ
    · refine j_aload_n (pc := 54) rfl 0 rfl E dX10_altered_54 ?_
      refine j_iload (pc := 55) 6 rfl E dX10_altered_55 ?_
      refine j_aload_n (pc := 57) rfl 0 rfl E dX10_altered_57 ?_
      refine j_get (pc := 58) E xuX10 rfl s_85 (k := 6) (by decide) q_1088 rfl (xflds_int rfl) dX10_altered_58 ?_
      refine JF.xb (fun y7 m8 h9 => ?_)
      refine j_callVv (pc := 61) (st := []) E (kX10_lays h9) mv_X10_lays rfl s_85 q_1377 [.int v6, .int (σ 85 6)] rfl rfl rfl (by decide) (Nat.le_of_ble_eq_true rfl) dX10_altered_61 ?_
      refine j_iconst (pc := 64) (v := 0) (by decide) E dX10_altered_64 ?_
      refine j_istore (pc := 65) (lv1 := [(7, .int 0), (0, .ref (xa X 85)), (1, .int v1), (2, .int v2), (3, .int v3), (4, .int v4), (5, .int v5), (6, .int v6)]) E dX10_altered_65 (by decide) rfl ?_
      refine j_iconst (pc := 67) (v := 0) (by decide) E dX10_altered_67 ?_
      refine j_istore (pc := 68) (lv1 := [(8, .int 0), (7, .int 0), (0, .ref (xa X 85)), (1, .int v1), (2, .int v2), (3, .int v3), (4, .int v4), (5, .int v5), (6, .int v6)]) E dX10_altered_68 (by decide) rfl ?_
      refine JF.sub [2, 3, 4, 5, 6, 7, 8, 1, 0] rfl ?_
      refine lX10_altered_L70 N v1 v2 v3 v4 v5 v6 _ E R (fun x10 m11 => ?_) N 0 0 m8
      · refine j_iload (pc := 112) 4 rfl E dX10_altered_112 ?_
        refine j_iconst (pc := 114) (v := (-1)) (by decide) E dX10_altered_114 ?_
        refine j_icmp_eq (pc := 115) (tgt := 125) E dX10_altered_115 (by decide) ?_ ?_
        · refine JF.sub [0, 1, 2, 3, 4, 5, 6, 7] rfl ?_
          exact lX10_altered_J125 N v1 v2 v3 v4 v5 v6 x10 (fX10_altered_L47 N v1 v2 v3 v5 k184 n) E R ih m11
        · refine j_iload (pc := 118) 7 rfl E dX10_altered_118 ?_
          refine j_iload (pc := 120) 4 rfl E dX10_altered_120 ?_
          refine j_icmp_ge (pc := 122) (tgt := 178) E dX10_altered_122 (by decide) ?_ ?_
          · refine j_iinc (pc := 178) (v := (v6 + 1)) (lv1 := [(6, .int (v6 + 1)), (0, .ref (xa X 85)), (1, .int v1), (2, .int v2), (3, .int v3), (4, .int v4), (5, .int v5), (7, .int x10)]) E dX10_altered_178 6 rfl rfl (by decide) rfl ?_
            refine j_goto (pc := 181) (tgt := 47) E dX10_altered_181 (by decide) ?_
            refine JF.sub [1, 2, 3, 4, 5, 6, 0] rfl ?_
            exact ih v4 (v6 + 1) m11
          · refine JF.sub [0, 1, 2, 3, 4, 5, 6, 7] rfl ?_
            exact lX10_altered_J125 N v1 v2 v3 v4 v5 v6 x10 (fX10_altered_L47 N v1 v2 v3 v5 k184 n) E R ih m11
def fX10_altered_J42 (N : Nat) (v1 : Int32) (v2 : Int32) (v3 : Int32) (v4 : Int32) (t0 : Int32) (σ : XS) : Option XO := fX10_altered_L47 N v1 v2 v3 t0 (fun x19 m20 => if x19 = (-1) then some (x19, m20) else if v3 = (-1) then some (x19, m20) else if (m20 85 6) ≤ v3 then some ((-1), m20) else gd (xin v3 6) (some ((m20 95 v3.toNatClampNeg), m20))) N v4 0 σ
set_option maxRecDepth 100000 in
set_option maxHeartbeats 4000000 in
theorem lX10_altered_J42 (N : Nat) (v1 : Int32) (v2 : Int32) (v3 : Int32) (v4 : Int32) (t0 : Int32) {X : XC} {o : XO} (E : XE X cX10_altered RX10 9 4 96) (R : XI X o cX10_altered) (σ : XS) : JF X o 9 42 [(0, .ref (xa X 85)), (1, .int v1), (2, .int v2), (3, .int v3), (4, .int v4)] [.int t0] σ (fX10_altered_J42 N v1 v2 v3 v4 t0 σ) := by
  show JF X o 9 42 [(0, .ref (xa X 85)), (1, .int v1), (2, .int v2), (3, .int v3), (4, .int v4)] [.int t0] σ (fX10_altered_L47 N v1 v2 v3 t0 (fun x19 m20 => if x19 = (-1) then some (x19, m20) else if v3 = (-1) then some (x19, m20) else if (m20 85 6) ≤ v3 then some ((-1), m20) else gd (xin v3 6) (some ((m20 95 v3.toNatClampNeg), m20))) N v4 0 σ)
  refine j_istore (pc := 42) (lv1 := [(5, .int t0), (0, .ref (xa X 85)), (1, .int v1), (2, .int v2), (3, .int v3), (4, .int v4)]) E dX10_altered_42 (by decide) rfl ?_
  refine j_iconst (pc := 44) (v := 0) (by decide) E dX10_altered_44 ?_
  refine j_istore (pc := 45) (lv1 := [(6, .int 0), (5, .int t0), (0, .ref (xa X 85)), (1, .int v1), (2, .int v2), (3, .int v3), (4, .int v4)]) E dX10_altered_45 (by decide) rfl ?_
  refine JF.sub [2, 3, 4, 5, 6, 1, 0] rfl ?_
  refine lX10_altered_L47 N v1 v2 v3 t0 _ E R (fun x19 m20 => ?_) N v4 0 σ
  · refine j_iload (pc := 184) 2 rfl E dX10_altered_184 ?_
    refine j_iconst (pc := 186) (v := (-1)) (by decide) E dX10_altered_186 ?_
    refine j_icmp_eq (pc := 187) (tgt := 195) E dX10_altered_187 (by decide) ?_ ?_
    · refine j_iload (pc := 195) 2 rfl E dX10_altered_195 ?_
      refine j_goto (pc := 197) (tgt := 218) E dX10_altered_197 (by decide) ?_
      exact j_iret (pc := 218) E R dX10_altered_218
    · refine j_iload_n (pc := 190) rfl 1 rfl E dX10_altered_190 ?_
      refine j_iconst (pc := 191) (v := (-1)) (by decide) E dX10_altered_191 ?_
      refine j_icmp_ne (pc := 192) (tgt := 200) E dX10_altered_192 (by decide) ?_ ?_
      · refine j_iload (pc := 195) 2 rfl E dX10_altered_195 ?_
        refine j_goto (pc := 197) (tgt := 218) E dX10_altered_197 (by decide) ?_
        exact j_iret (pc := 218) E R dX10_altered_218
      · refine j_iload_n (pc := 200) rfl 1 rfl E dX10_altered_200 ?_
        refine j_aload_n (pc := 201) rfl 0 rfl E dX10_altered_201 ?_
        refine j_get (pc := 202) E xuX10 rfl s_85 (k := 6) (by decide) q_1088 rfl (xflds_int rfl) dX10_altered_202 ?_
        refine j_icmp_ge (pc := 205) (tgt := 217) E dX10_altered_205 (by decide) ?_ ?_
        · refine j_iconst (pc := 217) (v := (-1)) (by decide) E dX10_altered_217 ?_
          exact j_iret (pc := 218) E R dX10_altered_218
        · refine j_aload_n (pc := 208) rfl 0 rfl E dX10_altered_208 ?_
          refine j_get (pc := 209) E xuX10 rfl s_85 (k := 22) (by decide) q_1104 rfl (xflds_ref rfl) dX10_altered_209 ?_
          refine j_iload_n (pc := 212) rfl 1 rfl E dX10_altered_212 ?_
          refine j_iald (pc := 213) E s_95 dX10_altered_213 ?_
          refine j_goto (pc := 214) (tgt := 218) E dX10_altered_214 (by decide) ?_
          exact j_iret (pc := 218) E R dX10_altered_218
def fX10_altered (N : Nat) (σ : XS) (p1 : Int32) (p2 : Int32) (p3 : Int32) : Option XO := xB (fX10_areBoth N σ p1 p2) (fun y1 m2 => if y1 = 0 then some ((-2), m2) else if (-1) ≤ p3 then if (m2 85 6) = 0 then fX10_altered_J42 N p1 p2 p3 (-1) 0 m2 else xB (fX10_ways N m2 (m2 85 6)) (fun y4 m5 => fX10_altered_J42 N p1 p2 p3 (-1) y4 m5) else some ((-3), m2))
set_option maxRecDepth 100000 in
set_option maxHeartbeats 4000000 in
theorem kX10_altered {N : Nat} {σ : XS} {p1 : Int32} {p2 : Int32} {p3 : Int32} {o : XO} (h : fX10_altered N σ p1 p2 p3 = some o) : CtI yX10_altered cX10_altered 9 (some .int) 4 96 (fun Am ad => [.ref (Am 85), .int p1, .int p2, .int p3]) σ o := by
  refine ct_int (by decide) (fun _ _ => Nat.le_of_ble_eq_true rfl) (fun X E R => ?_)
  rw [← h]
  show JF X o 9 0 [(0, .ref (xa X 85)), (1, .int p1), (2, .int p2), (3, .int p3)] [] σ (xB (fX10_areBoth N σ p1 p2) (fun y1 m2 => if y1 = 0 then some ((-2), m2) else if (-1) ≤ p3 then if (m2 85 6) = 0 then fX10_altered_J42 N p1 p2 p3 (-1) 0 m2 else xB (fX10_ways N m2 (m2 85 6)) (fun y4 m5 => fX10_altered_J42 N p1 p2 p3 (-1) y4 m5) else some ((-3), m2)))
  refine j_aload_n (pc := 0) rfl 0 rfl E dX10_altered_0 ?_
  refine j_iload_n (pc := 1) rfl 1 rfl E dX10_altered_1 ?_
  refine j_iload_n (pc := 2) rfl 2 rfl E dX10_altered_2 ?_
  refine JF.xb (fun y1 m2 h3 => ?_)
  refine j_callVi (pc := 3) (st := []) E (kX10_areBoth h3) mv_X10_areBoth rfl s_85 q_1317 [.int p1, .int p2] rfl rfl rfl (by decide) (Nat.le_of_ble_eq_true rfl) dX10_altered_3 ?_
  refine j_if_ne (pc := 6) (tgt := 12) E dX10_altered_6 (by decide) ?_ ?_
  · refine j_bipush (pc := 9) (v := (-2)) (by decide) E dX10_altered_9 ?_
    exact j_iret (pc := 11) E R dX10_altered_11
  · refine j_iload_n (pc := 12) rfl 3 rfl E dX10_altered_12 ?_
    refine j_iconst (pc := 13) (v := (-1)) (by decide) E dX10_altered_13 ?_
    refine j_icmp_ge (pc := 14) (tgt := 20) E dX10_altered_14 (by decide) ?_ ?_
    · refine j_iconst (pc := 20) (v := (-1)) (by decide) E dX10_altered_20 ?_
      refine j_istore (pc := 21) (lv1 := [(4, .int (-1)), (0, .ref (xa X 85)), (1, .int p1), (2, .int p2), (3, .int p3)]) E dX10_altered_21 (by decide) rfl ?_
      refine j_aload_n (pc := 23) rfl 1 rfl E dX10_altered_23 ?_
      refine j_get (pc := 24) E xuX10 rfl s_85 (k := 6) (by decide) q_1088 rfl (xflds_int rfl) dX10_altered_24 ?_
      refine j_if_ne (pc := 27) (tgt := 34) E dX10_altered_27 (by decide) ?_ ?_
      · refine j_iconst (pc := 30) (v := 0) (by decide) E dX10_altered_30 ?_
        refine j_goto (pc := 31) (tgt := 42) E dX10_altered_31 (by decide) ?_
        refine JF.sub [1, 2, 3, 4, 0] rfl ?_
        exact lX10_altered_J42 N p1 p2 p3 (-1) 0 E R m2
      · refine j_aload_n (pc := 34) rfl 1 rfl E dX10_altered_34 ?_
        refine j_aload_n (pc := 35) rfl 1 rfl E dX10_altered_35 ?_
        refine j_get (pc := 36) E xuX10 rfl s_85 (k := 6) (by decide) q_1088 rfl (xflds_int rfl) dX10_altered_36 ?_
        refine JF.xb (fun y4 m5 h6 => ?_)
        refine j_callVi (pc := 39) (st := []) E (kX10_ways h6) mv_X10_ways rfl s_85 q_1373 [.int (m2 85 6)] rfl rfl rfl (by decide) (Nat.le_of_ble_eq_true rfl) dX10_altered_39 ?_
        refine JF.sub [1, 2, 3, 4, 0] rfl ?_
        exact lX10_altered_J42 N p1 p2 p3 (-1) y4 E R m5
    · refine j_bipush (pc := 17) (v := (-3)) (by decide) E dX10_altered_17 ?_
      exact j_iret (pc := 19) E R dX10_altered_19
def fX10_weightOf_L4 (N : Nat) (v1 : Int32) (k40 : Int32 → XS → Option XO) : Nat → Int32 → Int32 → XS → Option XO
  | 0, _, _, _ => none
  | n + 1, v2, v3, σ => gd (xin 1 98) (if (σ 86 (1 : Int32).toNatClampNeg) ≤ v3 then k40 v2 σ else gd (xin (46 + (3 * v3)) 98) (xLetI (v2 + (((v1 >>> (v3 &&& 31)) &&& 1) * (σ 86 (46 + (3 * v3)).toNatClampNeg))) (fun x1 => fX10_weightOf_L4 N v1 k40 n x1 (v3 + 1) σ)))
set_option maxRecDepth 100000 in
set_option maxHeartbeats 4000000 in
theorem lX10_weightOf_L4 (N : Nat) (v1 : Int32) (k40 : Int32 → XS → Option XO) {X : XC} {o : XO} (E : XE X cX10_weightOf RX10 4 0 0) (R : XI X o cX10_weightOf) (K40 : ∀ (v2 : Int32) (σ : XS), JF X o 4 40 [(2, .int v2)] [] σ (k40 v2 σ)) : ∀ (n : Nat) (v2 : Int32) (v3 : Int32) (σ : XS), JF X o 4 4 [(0, .ref (xa X 85)), (1, .int v1), (2, .int v2), (3, .int v3)] [] σ (fX10_weightOf_L4 N v1 k40 n v2 v3 σ) := by
  intro n
  induction n with
  | zero => intro v2 v3 σ; exact JF.none
  | succ n ih =>
    intro v2 v3 σ
    show JF X o 4 4 [(0, .ref (xa X 85)), (1, .int v1), (2, .int v2), (3, .int v3)] [] σ (gd (xin 1 98) (if (σ 86 (1 : Int32).toNatClampNeg) ≤ v3 then k40 v2 σ else gd (xin (46 + (3 * v3)) 98) (xLetI (v2 + (((v1 >>> (v3 &&& 31)) &&& 1) * (σ 86 (46 + (3 * v3)).toNatClampNeg))) (fun x1 => fX10_weightOf_L4 N v1 k40 n x1 (v3 + 1) σ))))
    refine j_iload_n (pc := 4) rfl 3 rfl E dX10_weightOf_4 ?_
    refine j_aload_n (pc := 5) rfl 0 rfl E dX10_weightOf_5 ?_
    refine j_get (pc := 6) E xuX10 rfl s_85 (k := 0) (by decide) q_1082 rfl (xflds_ref rfl) dX10_weightOf_6 ?_
    refine j_iconst (pc := 9) (v := 1) (by decide) E dX10_weightOf_9 ?_
    refine j_iald (pc := 10) E s_86 dX10_weightOf_10 ?_
    refine j_icmp_ge (pc := 11) (tgt := 40) E dX10_weightOf_11 (by decide) ?_ ?_
    · refine JF.sub [2] rfl ?_
      exact K40 v2 σ
    · refine j_iload_n (pc := 14) rfl 2 rfl E dX10_weightOf_14 ?_
      refine j_iload_n (pc := 15) rfl 1 rfl E dX10_weightOf_15 ?_
      refine j_iload_n (pc := 16) rfl 3 rfl E dX10_weightOf_16 ?_
      refine j_ishr (pc := 17) E dX10_weightOf_17 ?_
      refine j_iconst (pc := 18) (v := 1) (by decide) E dX10_weightOf_18 ?_
      refine j_iand (pc := 19) E dX10_weightOf_19 ?_
      refine j_aload_n (pc := 20) rfl 0 rfl E dX10_weightOf_20 ?_
      refine j_get (pc := 21) E xuX10 rfl s_85 (k := 0) (by decide) q_1082 rfl (xflds_ref rfl) dX10_weightOf_21 ?_
      refine j_bipush (pc := 24) (v := 46) (by decide) E dX10_weightOf_24 ?_
      refine j_iconst (pc := 26) (v := 3) (by decide) E dX10_weightOf_26 ?_
      refine j_iload_n (pc := 27) rfl 3 rfl E dX10_weightOf_27 ?_
      refine j_imul (pc := 28) E dX10_weightOf_28 ?_
      refine j_iadd (pc := 29) E dX10_weightOf_29 ?_
      refine j_iald (pc := 30) E s_86 dX10_weightOf_30 ?_
      refine j_imul (pc := 31) E dX10_weightOf_31 ?_
      refine j_iadd (pc := 32) E dX10_weightOf_32 ?_
      refine JF.xletI (fun x1 => ?_)
      refine j_istore_n (pc := 33) (lv1 := [(2, .int x1), (0, .ref (xa X 85)), (1, .int v1), (3, .int v3)]) E dX10_weightOf_33 rfl (by decide) rfl ?_
      refine j_iinc (pc := 34) (v := (v3 + 1)) (lv1 := [(3, .int (v3 + 1)), (2, .int x1), (0, .ref (xa X 85)), (1, .int v1)]) E dX10_weightOf_34 3 rfl rfl (by decide) rfl ?_
      refine j_goto (pc := 37) (tgt := 4) E dX10_weightOf_37 (by decide) ?_
      refine JF.sub [2, 3, 1, 0] rfl ?_
      exact ih x1 (v3 + 1) σ
def fX10_weightOf (N : Nat) (σ : XS) (p1 : Int32) : Option XO := fX10_weightOf_L4 N p1 (fun x2 m3 => some (x2, m3)) N 0 0 σ
set_option maxRecDepth 100000 in
set_option maxHeartbeats 4000000 in
theorem kX10_weightOf {N : Nat} {σ : XS} {p1 : Int32} {o : XO} (h : fX10_weightOf N σ p1 = some o) : CtI yX10_weightOf cX10_weightOf 4 (some .int) 0 0 (fun Am ad => [.ref (Am 85), .int p1]) σ o := by
  refine ct_int (by decide) (fun _ _ => Nat.le_of_ble_eq_true rfl) (fun X E R => ?_)
  rw [← h]
  show JF X o 4 0 [(0, .ref (xa X 85)), (1, .int p1)] [] σ (fX10_weightOf_L4 N p1 (fun x2 m3 => some (x2, m3)) N 0 0 σ)
  refine j_iconst (pc := 0) (v := 0) (by decide) E dX10_weightOf_0 ?_
  refine j_istore_n (pc := 1) (lv1 := [(2, .int 0), (0, .ref (xa X 85)), (1, .int p1)]) E dX10_weightOf_1 rfl (by decide) rfl ?_
  refine j_iconst (pc := 2) (v := 0) (by decide) E dX10_weightOf_2 ?_
  refine j_istore_n (pc := 3) (lv1 := [(3, .int 0), (2, .int 0), (0, .ref (xa X 85)), (1, .int p1)]) E dX10_weightOf_3 rfl (by decide) rfl ?_
  refine JF.sub [2, 3, 1, 0] rfl ?_
  refine lX10_weightOf_L4 N p1 _ E R (fun x2 m3 => ?_) N 0 0 σ
  · refine j_iload_n (pc := 40) rfl 0 rfl E dX10_weightOf_40 ?_
    exact j_iret (pc := 41) E R dX10_weightOf_41
def fX10_laden_J98 (N : Nat) (v1 : Int32) (v2 : Int32) (v3 : Int32) (v4 : Int32) (v5 : Int32) (v6 : Int32) (v7 : Int32) (v8 : Int32) (t0 : Int32) (k58 : Int32 → Int32 → Int32 → Int32 → XS → Option XO) (σ : XS) : Option XO := xB (fX10_weightOf N σ v7) (fun y8 m9 => xB (fX10_weightOf N m9 v8) (fun y11 m12 => if t0 = 0 then k58 v3 v4 v5 (v8 + 1) m12 else if (y8 + y11) ≤ v3 then k58 v3 v4 v5 (v8 + 1) m12 else k58 (y8 + y11) v7 v8 (v8 + 1) m12))
set_option maxRecDepth 100000 in
set_option maxHeartbeats 4000000 in
theorem lX10_laden_J98 (N : Nat) (v1 : Int32) (v2 : Int32) (v3 : Int32) (v4 : Int32) (v5 : Int32) (v6 : Int32) (v7 : Int32) (v8 : Int32) (t0 : Int32) (k58 : Int32 → Int32 → Int32 → Int32 → XS → Option XO) {X : XC} {o : XO} (E : XE X cX10_laden RX10 11 1 25) (R : XI X o cX10_laden) (K58 : ∀ (v3 : Int32) (v4 : Int32) (v5 : Int32) (v8 : Int32) (σ : XS), JF X o 11 58 [(0, .ref (xa X 85)), (1, .int v1), (2, .int v2), (3, .int v3), (4, .int v4), (5, .int v5), (6, .int v6), (7, .int v7), (8, .int v8)] [] σ (k58 v3 v4 v5 v8 σ)) (σ : XS) : JF X o 11 98 [(0, .ref (xa X 85)), (1, .int v1), (2, .int v2), (3, .int v3), (4, .int v4), (5, .int v5), (6, .int v6), (7, .int v7), (8, .int v8)] [.int t0] σ (fX10_laden_J98 N v1 v2 v3 v4 v5 v6 v7 v8 t0 k58 σ) := by
  show JF X o 11 98 [(0, .ref (xa X 85)), (1, .int v1), (2, .int v2), (3, .int v3), (4, .int v4), (5, .int v5), (6, .int v6), (7, .int v7), (8, .int v8)] [.int t0] σ (xB (fX10_weightOf N σ v7) (fun y8 m9 => xB (fX10_weightOf N m9 v8) (fun y11 m12 => if t0 = 0 then k58 v3 v4 v5 (v8 + 1) m12 else if (y8 + y11) ≤ v3 then k58 v3 v4 v5 (v8 + 1) m12 else k58 (y8 + y11) v7 v8 (v8 + 1) m12)))
  refine j_istore (pc := 98) (lv1 := [(9, .int t0), (0, .ref (xa X 85)), (1, .int v1), (2, .int v2), (3, .int v3), (4, .int v4), (5, .int v5), (6, .int v6), (7, .int v7), (8, .int v8)]) E dX10_laden_98 (by decide) rfl ?_
  refine j_aload_n (pc := 100) rfl 1 rfl E dX10_laden_100 ?_
  refine j_iload (pc := 101) 8 rfl E dX10_laden_101 ?_
  refine JF.xb (fun y8 m9 h10 => ?_)
  refine j_callVi (pc := 103) (st := []) E (kX10_weightOf h10) mv_X10_weightOf rfl s_85 q_1410 [.int v7] rfl rfl rfl (by decide) (Nat.le_of_ble_eq_true rfl) dX10_laden_103 ?_
  refine j_aload_n (pc := 106) rfl 1 rfl E dX10_laden_106 ?_
  refine j_iload (pc := 107) 9 rfl E dX10_laden_107 ?_
  refine JF.xb (fun y11 m12 h13 => ?_)
  refine j_callVi (pc := 109) (st := [.int y8]) E (kX10_weightOf h13) mv_X10_weightOf rfl s_85 q_1410 [.int v8] rfl rfl rfl (by decide) (Nat.le_of_ble_eq_true rfl) dX10_laden_109 ?_
  refine j_iadd (pc := 112) E dX10_laden_112 ?_
  refine j_istore (pc := 113) (lv1 := [(10, .int (y8 + y11)), (9, .int t0), (0, .ref (xa X 85)), (1, .int v1), (2, .int v2), (3, .int v3), (4, .int v4), (5, .int v5), (6, .int v6), (7, .int v7), (8, .int v8)]) E dX10_laden_113 (by decide) rfl ?_
  refine j_iload (pc := 115) 1 rfl E dX10_laden_115 ?_
  refine j_if_eq (pc := 117) (tgt := 137) E dX10_laden_117 (by decide) ?_ ?_
  · refine j_iinc (pc := 137) (v := (v8 + 1)) (lv1 := [(8, .int (v8 + 1)), (10, .int (y8 + y11)), (9, .int t0), (0, .ref (xa X 85)), (1, .int v1), (2, .int v2), (3, .int v3), (4, .int v4), (5, .int v5), (6, .int v6), (7, .int v7)]) E dX10_laden_137 10 rfl rfl (by decide) rfl ?_
    refine j_goto (pc := 140) (tgt := 58) E dX10_laden_140 (by decide) ?_
    refine JF.sub [3, 4, 5, 6, 7, 8, 9, 10, 0] rfl ?_
    exact K58 v3 v4 v5 (v8 + 1) m12
  · refine j_iload (pc := 120) 0 rfl E dX10_laden_120 ?_
    refine j_iload_n (pc := 122) rfl 5 rfl E dX10_laden_122 ?_
    refine j_icmp_le (pc := 123) (tgt := 137) E dX10_laden_123 (by decide) ?_ ?_
    · refine j_iinc (pc := 137) (v := (v8 + 1)) (lv1 := [(8, .int (v8 + 1)), (10, .int (y8 + y11)), (9, .int t0), (0, .ref (xa X 85)), (1, .int v1), (2, .int v2), (3, .int v3), (4, .int v4), (5, .int v5), (6, .int v6), (7, .int v7)]) E dX10_laden_137 10 rfl rfl (by decide) rfl ?_
      refine j_goto (pc := 140) (tgt := 58) E dX10_laden_140 (by decide) ?_
      refine JF.sub [3, 4, 5, 6, 7, 8, 9, 10, 0] rfl ?_
      exact K58 v3 v4 v5 (v8 + 1) m12
    · refine j_iload (pc := 126) 0 rfl E dX10_laden_126 ?_
      refine j_istore_n (pc := 128) (lv1 := [(3, .int (y8 + y11)), (10, .int (y8 + y11)), (9, .int t0), (0, .ref (xa X 85)), (1, .int v1), (2, .int v2), (4, .int v4), (5, .int v5), (6, .int v6), (7, .int v7), (8, .int v8)]) E dX10_laden_128 rfl (by decide) rfl ?_
      refine j_iload (pc := 129) 9 rfl E dX10_laden_129 ?_
      refine j_istore (pc := 131) (lv1 := [(4, .int v7), (3, .int (y8 + y11)), (10, .int (y8 + y11)), (9, .int t0), (0, .ref (xa X 85)), (1, .int v1), (2, .int v2), (5, .int v5), (6, .int v6), (7, .int v7), (8, .int v8)]) E dX10_laden_131 (by decide) rfl ?_
      refine j_iload (pc := 133) 10 rfl E dX10_laden_133 ?_
      refine j_istore (pc := 135) (lv1 := [(5, .int v8), (4, .int v7), (3, .int (y8 + y11)), (10, .int (y8 + y11)), (9, .int t0), (0, .ref (xa X 85)), (1, .int v1), (2, .int v2), (6, .int v6), (7, .int v7), (8, .int v8)]) E dX10_laden_135 (by decide) rfl ?_
      refine j_iinc (pc := 137) (v := (v8 + 1)) (lv1 := [(8, .int (v8 + 1)), (5, .int v8), (4, .int v7), (3, .int (y8 + y11)), (10, .int (y8 + y11)), (9, .int t0), (0, .ref (xa X 85)), (1, .int v1), (2, .int v2), (6, .int v6), (7, .int v7)]) E dX10_laden_137 10 rfl rfl (by decide) rfl ?_
      refine j_goto (pc := 140) (tgt := 58) E dX10_laden_140 (by decide) ?_
      refine JF.sub [6, 7, 8, 3, 2, 1, 9, 10, 0] rfl ?_
      exact K58 (y8 + y11) v7 v8 (v8 + 1) m12
def fX10_laden_J97 (N : Nat) (v1 : Int32) (v2 : Int32) (v3 : Int32) (v4 : Int32) (v5 : Int32) (v6 : Int32) (v7 : Int32) (v8 : Int32) (k58 : Int32 → Int32 → Int32 → Int32 → XS → Option XO) (σ : XS) : Option XO := fX10_laden_J98 N v1 v2 v3 v4 v5 v6 v7 v8 0 k58 σ
set_option maxRecDepth 100000 in
set_option maxHeartbeats 4000000 in
theorem lX10_laden_J97 (N : Nat) (v1 : Int32) (v2 : Int32) (v3 : Int32) (v4 : Int32) (v5 : Int32) (v6 : Int32) (v7 : Int32) (v8 : Int32) (k58 : Int32 → Int32 → Int32 → Int32 → XS → Option XO) {X : XC} {o : XO} (E : XE X cX10_laden RX10 11 1 25) (R : XI X o cX10_laden) (K58 : ∀ (v3 : Int32) (v4 : Int32) (v5 : Int32) (v8 : Int32) (σ : XS), JF X o 11 58 [(0, .ref (xa X 85)), (1, .int v1), (2, .int v2), (3, .int v3), (4, .int v4), (5, .int v5), (6, .int v6), (7, .int v7), (8, .int v8)] [] σ (k58 v3 v4 v5 v8 σ)) (σ : XS) : JF X o 11 97 [(0, .ref (xa X 85)), (1, .int v1), (2, .int v2), (3, .int v3), (4, .int v4), (5, .int v5), (6, .int v6), (7, .int v7), (8, .int v8)] [] σ (fX10_laden_J97 N v1 v2 v3 v4 v5 v6 v7 v8 k58 σ) := by
  show JF X o 11 97 [(0, .ref (xa X 85)), (1, .int v1), (2, .int v2), (3, .int v3), (4, .int v4), (5, .int v5), (6, .int v6), (7, .int v7), (8, .int v8)] [] σ (fX10_laden_J98 N v1 v2 v3 v4 v5 v6 v7 v8 0 k58 σ)
  refine j_iconst (pc := 97) (v := 0) (by decide) E dX10_laden_97 ?_
  refine JF.sub [0, 1, 2, 3, 4, 5, 6, 7, 8] rfl ?_
  exact lX10_laden_J98 N v1 v2 v3 v4 v5 v6 v7 v8 0 k58 E R K58 σ
def fX10_laden_L58 (N : Nat) (v1 : Int32) (v2 : Int32) (v6 : Int32) (v7 : Int32) (k143 : Int32 → Int32 → Int32 → XS → Option XO) : Nat → Int32 → Int32 → Int32 → Int32 → XS → Option XO
  | 0, _, _, _, _, _ => none
  | n + 1, v3, v4, v5, v8, σ => if v6 ≤ v8 then k143 v3 v4 v5 σ else if (v7 &&& v8) = 0 then xB (fX10_weightOf N σ v7) (fun y14 m15 => if v1 < y14 then fX10_laden_J97 N v1 v2 v3 v4 v5 v6 v7 v8 (fX10_laden_L58 N v1 v2 v6 v7 k143 n) m15 else xB (fX10_weightOf N m15 v8) (fun y17 m18 => if v1 < y17 then fX10_laden_J97 N v1 v2 v3 v4 v5 v6 v7 v8 (fX10_laden_L58 N v1 v2 v6 v7 k143 n) m18 else fX10_laden_J98 N v1 v2 v3 v4 v5 v6 v7 v8 1 (fX10_laden_L58 N v1 v2 v6 v7 k143 n) m18)) else fX10_laden_J97 N v1 v2 v3 v4 v5 v6 v7 v8 (fX10_laden_L58 N v1 v2 v6 v7 k143 n) σ
set_option maxRecDepth 100000 in
set_option maxHeartbeats 4000000 in
theorem lX10_laden_L58 (N : Nat) (v1 : Int32) (v2 : Int32) (v6 : Int32) (v7 : Int32) (k143 : Int32 → Int32 → Int32 → XS → Option XO) {X : XC} {o : XO} (E : XE X cX10_laden RX10 11 1 25) (R : XI X o cX10_laden) (K143 : ∀ (v3 : Int32) (v4 : Int32) (v5 : Int32) (σ : XS), JF X o 11 143 [(0, .ref (xa X 85)), (1, .int v1), (2, .int v2), (3, .int v3), (4, .int v4), (5, .int v5), (6, .int v6), (7, .int v7)] [] σ (k143 v3 v4 v5 σ)) : ∀ (n : Nat) (v3 : Int32) (v4 : Int32) (v5 : Int32) (v8 : Int32) (σ : XS), JF X o 11 58 [(0, .ref (xa X 85)), (1, .int v1), (2, .int v2), (3, .int v3), (4, .int v4), (5, .int v5), (6, .int v6), (7, .int v7), (8, .int v8)] [] σ (fX10_laden_L58 N v1 v2 v6 v7 k143 n v3 v4 v5 v8 σ) := by
  intro n
  induction n with
  | zero => intro v3 v4 v5 v8 σ; exact JF.none
  | succ n ih =>
    intro v3 v4 v5 v8 σ
    show JF X o 11 58 [(0, .ref (xa X 85)), (1, .int v1), (2, .int v2), (3, .int v3), (4, .int v4), (5, .int v5), (6, .int v6), (7, .int v7), (8, .int v8)] [] σ (if v6 ≤ v8 then k143 v3 v4 v5 σ else if (v7 &&& v8) = 0 then xB (fX10_weightOf N σ v7) (fun y14 m15 => if v1 < y14 then fX10_laden_J97 N v1 v2 v3 v4 v5 v6 v7 v8 (fX10_laden_L58 N v1 v2 v6 v7 k143 n) m15 else xB (fX10_weightOf N m15 v8) (fun y17 m18 => if v1 < y17 then fX10_laden_J97 N v1 v2 v3 v4 v5 v6 v7 v8 (fX10_laden_L58 N v1 v2 v6 v7 k143 n) m18 else fX10_laden_J98 N v1 v2 v3 v4 v5 v6 v7 v8 1 (fX10_laden_L58 N v1 v2 v6 v7 k143 n) m18)) else fX10_laden_J97 N v1 v2 v3 v4 v5 v6 v7 v8 (fX10_laden_L58 N v1 v2 v6 v7 k143 n) σ)
    refine j_iload (pc := 58) 8 rfl E dX10_laden_58 ?_
    refine j_iload (pc := 60) 6 rfl E dX10_laden_60 ?_
    refine j_icmp_ge (pc := 62) (tgt := 143) E dX10_laden_62 (by decide) ?_ ?_
    · refine JF.sub [0, 1, 2, 3, 4, 5, 6, 7] rfl ?_
      exact K143 v3 v4 v5 σ
    · refine j_iload (pc := 65) 7 rfl E dX10_laden_65 ?_
      refine j_iload (pc := 67) 8 rfl E dX10_laden_67 ?_
      refine j_iand (pc := 69) E dX10_laden_69 ?_
      refine j_if_ne (pc := 70) (tgt := 97) E dX10_laden_70 (by decide) ?_ ?_
      · refine j_aload_n (pc := 73) rfl 0 rfl E dX10_laden_73 ?_
        refine j_iload (pc := 74) 7 rfl E dX10_laden_74 ?_
        refine JF.xb (fun y14 m15 h16 => ?_)
        refine j_callVi (pc := 76) (st := []) E (kX10_weightOf h16) mv_X10_weightOf rfl s_85 q_1410 [.int v7] rfl rfl rfl (by decide) (Nat.le_of_ble_eq_true rfl) dX10_laden_76 ?_
        refine j_iload_n (pc := 79) rfl 1 rfl E dX10_laden_79 ?_
        refine j_icmp_gt (pc := 80) (tgt := 97) E dX10_laden_80 (by decide) ?_ ?_
        · refine JF.sub [0, 1, 2, 3, 4, 5, 6, 7, 8] rfl ?_
          exact lX10_laden_J97 N v1 v2 v3 v4 v5 v6 v7 v8 (fX10_laden_L58 N v1 v2 v6 v7 k143 n) E R ih m15
        · refine j_aload_n (pc := 83) rfl 0 rfl E dX10_laden_83 ?_
          refine j_iload (pc := 84) 8 rfl E dX10_laden_84 ?_
          refine JF.xb (fun y17 m18 h19 => ?_)
          refine j_callVi (pc := 86) (st := []) E (kX10_weightOf h19) mv_X10_weightOf rfl s_85 q_1410 [.int v8] rfl rfl rfl (by decide) (Nat.le_of_ble_eq_true rfl) dX10_laden_86 ?_
          refine j_iload_n (pc := 89) rfl 1 rfl E dX10_laden_89 ?_
          refine j_icmp_gt (pc := 90) (tgt := 97) E dX10_laden_90 (by decide) ?_ ?_
          · refine JF.sub [0, 1, 2, 3, 4, 5, 6, 7, 8] rfl ?_
            exact lX10_laden_J97 N v1 v2 v3 v4 v5 v6 v7 v8 (fX10_laden_L58 N v1 v2 v6 v7 k143 n) E R ih m18
          · refine j_iconst (pc := 93) (v := 1) (by decide) E dX10_laden_93 ?_
            refine j_goto (pc := 94) (tgt := 98) E dX10_laden_94 (by decide) ?_
            refine JF.sub [0, 1, 2, 3, 4, 5, 6, 7, 8] rfl ?_
            exact lX10_laden_J98 N v1 v2 v3 v4 v5 v6 v7 v8 1 (fX10_laden_L58 N v1 v2 v6 v7 k143 n) E R ih m18
      · refine JF.sub [0, 1, 2, 3, 4, 5, 6, 7, 8] rfl ?_
        exact lX10_laden_J97 N v1 v2 v3 v4 v5 v6 v7 v8 (fX10_laden_L58 N v1 v2 v6 v7 k143 n) E R ih σ
def fX10_laden_L48 (N : Nat) (v1 : Int32) (v2 : Int32) (v6 : Int32) (k149 : Int32 → Int32 → Int32 → XS → Option XO) : Nat → Int32 → Int32 → Int32 → Int32 → XS → Option XO
  | 0, _, _, _, _, _ => none
  | n + 1, v3, v4, v5, v7, σ => if v6 ≤ v7 then k149 v3 v4 v5 σ else fX10_laden_L58 N v1 v2 v6 v7 (fun x20 x21 x22 m23 => fX10_laden_L48 N v1 v2 v6 k149 n x20 x21 x22 (v7 + 1) m23) N v3 v4 v5 0 σ
set_option maxRecDepth 100000 in
set_option maxHeartbeats 4000000 in
theorem lX10_laden_L48 (N : Nat) (v1 : Int32) (v2 : Int32) (v6 : Int32) (k149 : Int32 → Int32 → Int32 → XS → Option XO) {X : XC} {o : XO} (E : XE X cX10_laden RX10 11 1 25) (R : XI X o cX10_laden) (K149 : ∀ (v3 : Int32) (v4 : Int32) (v5 : Int32) (σ : XS), JF X o 11 149 [(2, .int v2), (3, .int v3), (4, .int v4), (5, .int v5)] [] σ (k149 v3 v4 v5 σ)) : ∀ (n : Nat) (v3 : Int32) (v4 : Int32) (v5 : Int32) (v7 : Int32) (σ : XS), JF X o 11 48 [(0, .ref (xa X 85)), (1, .int v1), (2, .int v2), (3, .int v3), (4, .int v4), (5, .int v5), (6, .int v6), (7, .int v7)] [] σ (fX10_laden_L48 N v1 v2 v6 k149 n v3 v4 v5 v7 σ) := by
  intro n
  induction n with
  | zero => intro v3 v4 v5 v7 σ; exact JF.none
  | succ n ih =>
    intro v3 v4 v5 v7 σ
    show JF X o 11 48 [(0, .ref (xa X 85)), (1, .int v1), (2, .int v2), (3, .int v3), (4, .int v4), (5, .int v5), (6, .int v6), (7, .int v7)] [] σ (if v6 ≤ v7 then k149 v3 v4 v5 σ else fX10_laden_L58 N v1 v2 v6 v7 (fun x20 x21 x22 m23 => fX10_laden_L48 N v1 v2 v6 k149 n x20 x21 x22 (v7 + 1) m23) N v3 v4 v5 0 σ)
    refine j_iload (pc := 48) 7 rfl E dX10_laden_48 ?_
    refine j_iload (pc := 50) 6 rfl E dX10_laden_50 ?_
    refine j_icmp_ge (pc := 52) (tgt := 149) E dX10_laden_52 (by decide) ?_ ?_
    · refine JF.sub [2, 3, 4, 5] rfl ?_
      exact K149 v3 v4 v5 σ
    · refine j_iconst (pc := 55) (v := 0) (by decide) E dX10_laden_55 ?_
      refine j_istore (pc := 56) (lv1 := [(8, .int 0), (0, .ref (xa X 85)), (1, .int v1), (2, .int v2), (3, .int v3), (4, .int v4), (5, .int v5), (6, .int v6), (7, .int v7)]) E dX10_laden_56 (by decide) rfl ?_
      refine JF.sub [1, 2, 3, 4, 5, 6, 7, 8, 0] rfl ?_
      refine lX10_laden_L58 N v1 v2 v6 v7 _ E R (fun x20 x21 x22 m23 => ?_) N v3 v4 v5 0 σ
      · refine j_iinc (pc := 143) (v := (v7 + 1)) (lv1 := [(7, .int (v7 + 1)), (0, .ref (xa X 85)), (1, .int v1), (2, .int v2), (3, .int x20), (4, .int x21), (5, .int x22), (6, .int v6)]) E dX10_laden_143 7 rfl rfl (by decide) rfl ?_
        refine j_goto (pc := 146) (tgt := 48) E dX10_laden_146 (by decide) ?_
        refine JF.sub [1, 2, 3, 4, 5, 6, 7, 0] rfl ?_
        exact ih x20 x21 x22 (v7 + 1) m23
def fX10_laden (N : Nat) (σ : XS) (p1 : Int32) (p2 : Int32) : Option XO := xB (fX10_in N σ p1.toInt64 1 72) (fun y1 m2 => if y1 = 0 then some ((-3), m2) else xB (fX10_in N m2 p2.toInt64 0 2) (fun y4 m5 => if y4 = 0 then some ((-3), m5) else gd (xin 1 98) (xLetI (1 <<< ((m5 86 (1 : Int32).toNatClampNeg) &&& 31)) (fun x7 => fX10_laden_L48 N p1 p2 x7 (fun x24 x25 x26 m27 => if p2 = 0 then some (x24, m27) else if p2 = 1 then some (x25, m27) else some (x26, m27)) N (-1) 0 0 0 m5))))
set_option maxRecDepth 100000 in
set_option maxHeartbeats 4000000 in
theorem kX10_laden {N : Nat} {σ : XS} {p1 : Int32} {p2 : Int32} {o : XO} (h : fX10_laden N σ p1 p2 = some o) : CtI yX10_laden cX10_laden 11 (some .int) 1 25 (fun Am ad => [.ref (Am 85), .int p1, .int p2]) σ o := by
  refine ct_int (by decide) (fun _ _ => Nat.le_of_ble_eq_true rfl) (fun X E R => ?_)
  rw [← h]
  show JF X o 11 0 [(0, .ref (xa X 85)), (1, .int p1), (2, .int p2)] [] σ (xB (fX10_in N σ p1.toInt64 1 72) (fun y1 m2 => if y1 = 0 then some ((-3), m2) else xB (fX10_in N m2 p2.toInt64 0 2) (fun y4 m5 => if y4 = 0 then some ((-3), m5) else gd (xin 1 98) (xLetI (1 <<< ((m5 86 (1 : Int32).toNatClampNeg) &&& 31)) (fun x7 => fX10_laden_L48 N p1 p2 x7 (fun x24 x25 x26 m27 => if p2 = 0 then some (x24, m27) else if p2 = 1 then some (x25, m27) else some (x26, m27)) N (-1) 0 0 0 m5)))))
  refine j_iload_n (pc := 0) rfl 1 rfl E dX10_laden_0 ?_
  refine j_i2l (pc := 1) E dX10_laden_1 ?_
  refine j_lconst (pc := 2) (v := 1) (by decide) E dX10_laden_2 ?_
  refine j_ldc2 (pc := 3) (v := 72) E q_1409 dX10_laden_3 ?_
  refine JF.xb (fun y1 m2 h3 => ?_)
  refine j_callSi (pc := 6) (st := []) E (kX10_in h3) mv_X10_in q_1079 [.long p1.toInt64, .long 1, .long 72] rfl rfl rfl (by decide) (Nat.le_of_ble_eq_true rfl) dX10_laden_6 ?_
  refine j_if_eq (pc := 9) (tgt := 24) E dX10_laden_9 (by decide) ?_ ?_
  · refine j_bipush (pc := 24) (v := (-3)) (by decide) E dX10_laden_24 ?_
    exact j_iret (pc := 26) E R dX10_laden_26
  · refine j_iload_n (pc := 12) rfl 2 rfl E dX10_laden_12 ?_
    refine j_i2l (pc := 13) E dX10_laden_13 ?_
    refine j_lconst (pc := 14) (v := 0) (by decide) E dX10_laden_14 ?_
    refine j_ldc2 (pc := 15) (v := 2) E q_1246 dX10_laden_15 ?_
    refine JF.xb (fun y4 m5 h6 => ?_)
    refine j_callSi (pc := 18) (st := []) E (kX10_in h6) mv_X10_in q_1079 [.long p2.toInt64, .long 0, .long 2] rfl rfl rfl (by decide) (Nat.le_of_ble_eq_true rfl) dX10_laden_18 ?_
    refine j_if_ne (pc := 21) (tgt := 27) E dX10_laden_21 (by decide) ?_ ?_
    · refine j_bipush (pc := 24) (v := (-3)) (by decide) E dX10_laden_24 ?_
      exact j_iret (pc := 26) E R dX10_laden_26
    · refine j_iconst (pc := 27) (v := (-1)) (by decide) E dX10_laden_27 ?_
      refine j_istore_n (pc := 28) (lv1 := [(3, .int (-1)), (0, .ref (xa X 85)), (1, .int p1), (2, .int p2)]) E dX10_laden_28 rfl (by decide) rfl ?_
      refine j_iconst (pc := 29) (v := 0) (by decide) E dX10_laden_29 ?_
      refine j_istore (pc := 30) (lv1 := [(4, .int 0), (3, .int (-1)), (0, .ref (xa X 85)), (1, .int p1), (2, .int p2)]) E dX10_laden_30 (by decide) rfl ?_
      refine j_iconst (pc := 32) (v := 0) (by decide) E dX10_laden_32 ?_
      refine j_istore (pc := 33) (lv1 := [(5, .int 0), (4, .int 0), (3, .int (-1)), (0, .ref (xa X 85)), (1, .int p1), (2, .int p2)]) E dX10_laden_33 (by decide) rfl ?_
      refine j_iconst (pc := 35) (v := 1) (by decide) E dX10_laden_35 ?_
      refine j_aload_n (pc := 36) rfl 3 rfl E dX10_laden_36 ?_
      refine j_get (pc := 37) E xuX10 rfl s_85 (k := 0) (by decide) q_1082 rfl (xflds_ref rfl) dX10_laden_37 ?_
      refine j_iconst (pc := 40) (v := 1) (by decide) E dX10_laden_40 ?_
      refine j_iald (pc := 41) E s_86 dX10_laden_41 ?_
      refine j_ishl (pc := 42) E dX10_laden_42 ?_
      refine JF.xletI (fun x7 => ?_)
      refine j_istore (pc := 43) (lv1 := [(6, .int x7), (5, .int 0), (4, .int 0), (3, .int (-1)), (0, .ref (xa X 85)), (1, .int p1), (2, .int p2)]) E dX10_laden_43 (by decide) rfl ?_
      refine j_iconst (pc := 45) (v := 0) (by decide) E dX10_laden_45 ?_
      refine j_istore (pc := 46) (lv1 := [(7, .int 0), (6, .int x7), (5, .int 0), (4, .int 0), (3, .int (-1)), (0, .ref (xa X 85)), (1, .int p1), (2, .int p2)]) E dX10_laden_46 (by decide) rfl ?_
      refine JF.sub [5, 6, 7, 4, 3, 2, 1, 0] rfl ?_
      refine lX10_laden_L48 N p1 p2 x7 _ E R (fun x24 x25 x26 m27 => ?_) N (-1) 0 0 0 m5
      · refine j_iload_n (pc := 149) rfl 0 rfl E dX10_laden_149 ?_
        refine j_if_ne (pc := 150) (tgt := 157) E dX10_laden_150 (by decide) ?_ ?_
        · refine j_iload_n (pc := 153) rfl 1 rfl E dX10_laden_153 ?_
          refine j_goto (pc := 154) (tgt := 169) E dX10_laden_154 (by decide) ?_
          exact j_iret (pc := 169) E R dX10_laden_169
        · refine j_iload_n (pc := 157) rfl 0 rfl E dX10_laden_157 ?_
          refine j_iconst (pc := 158) (v := 1) (by decide) E dX10_laden_158 ?_
          refine j_icmp_ne (pc := 159) (tgt := 167) E dX10_laden_159 (by decide) ?_ ?_
          · refine j_iload (pc := 162) 2 rfl E dX10_laden_162 ?_
            refine j_goto (pc := 164) (tgt := 169) E dX10_laden_164 (by decide) ?_
            exact j_iret (pc := 169) E R dX10_laden_169
          · refine j_iload (pc := 167) 3 rfl E dX10_laden_167 ?_
            exact j_iret (pc := 169) E R dX10_laden_169
def fX10_left_L56 (N : Nat) (v1 : Int32) (v2 : Int32) (v3 : Int32) (v4 : Int32) (v5 : Int32) (k127 : Int32 → XS → Option XO) : Nat → Int32 → Int32 → XS → Option XO
  | 0, _, _, _ => none
  | n + 1, v6, v7, σ => gd (xin 1 98) (if (σ 86 (1 : Int32).toNatClampNeg) ≤ v7 then k127 v6 σ else gd (xin ((46 + (3 * v7)) + 2) 98) (if (σ 86 ((46 + (3 * v7)) + 2).toNatClampNeg) = 0 then gd (xin ((46 + (3 * v7)) + 1) 98) (gd (xin (42 + (σ 86 ((46 + (3 * v7)) + 1).toNatClampNeg)) 98) (if (σ 86 (42 + (σ 86 ((46 + (3 * v7)) + 1).toNatClampNeg)).toNatClampNeg) = v4 then fX10_left_L56 N v1 v2 v3 v4 v5 k127 n (v6 + 1) (v7 + 1) σ else fX10_left_L56 N v1 v2 v3 v4 v5 k127 n (v6 + 0) (v7 + 1) σ)) else fX10_left_L56 N v1 v2 v3 v4 v5 k127 n (v6 + 0) (v7 + 1) σ))
set_option maxRecDepth 100000 in
set_option maxHeartbeats 4000000 in
theorem lX10_left_L56 (N : Nat) (v1 : Int32) (v2 : Int32) (v3 : Int32) (v4 : Int32) (v5 : Int32) (k127 : Int32 → XS → Option XO) {X : XC} {o : XO} (E : XE X cX10_left RX10 8 1 25) (R : XI X o cX10_left) (K127 : ∀ (v6 : Int32) (σ : XS), JF X o 8 127 [(0, .ref (xa X 85)), (1, .int v1), (2, .int v2), (3, .int v3), (4, .int v4), (5, .int v5), (6, .int v6)] [] σ (k127 v6 σ)) : ∀ (n : Nat) (v6 : Int32) (v7 : Int32) (σ : XS), JF X o 8 56 [(0, .ref (xa X 85)), (1, .int v1), (2, .int v2), (3, .int v3), (4, .int v4), (5, .int v5), (6, .int v6), (7, .int v7)] [] σ (fX10_left_L56 N v1 v2 v3 v4 v5 k127 n v6 v7 σ) := by
  intro n
  induction n with
  | zero => intro v6 v7 σ; exact JF.none
  | succ n ih =>
    intro v6 v7 σ
    show JF X o 8 56 [(0, .ref (xa X 85)), (1, .int v1), (2, .int v2), (3, .int v3), (4, .int v4), (5, .int v5), (6, .int v6), (7, .int v7)] [] σ (gd (xin 1 98) (if (σ 86 (1 : Int32).toNatClampNeg) ≤ v7 then k127 v6 σ else gd (xin ((46 + (3 * v7)) + 2) 98) (if (σ 86 ((46 + (3 * v7)) + 2).toNatClampNeg) = 0 then gd (xin ((46 + (3 * v7)) + 1) 98) (gd (xin (42 + (σ 86 ((46 + (3 * v7)) + 1).toNatClampNeg)) 98) (if (σ 86 (42 + (σ 86 ((46 + (3 * v7)) + 1).toNatClampNeg)).toNatClampNeg) = v4 then fX10_left_L56 N v1 v2 v3 v4 v5 k127 n (v6 + 1) (v7 + 1) σ else fX10_left_L56 N v1 v2 v3 v4 v5 k127 n (v6 + 0) (v7 + 1) σ)) else fX10_left_L56 N v1 v2 v3 v4 v5 k127 n (v6 + 0) (v7 + 1) σ)))
    refine j_iload (pc := 56) 7 rfl E dX10_left_56 ?_
    refine j_aload_n (pc := 58) rfl 0 rfl E dX10_left_58 ?_
    refine j_get (pc := 59) E xuX10 rfl s_85 (k := 0) (by decide) q_1082 rfl (xflds_ref rfl) dX10_left_59 ?_
    refine j_iconst (pc := 62) (v := 1) (by decide) E dX10_left_62 ?_
    refine j_iald (pc := 63) E s_86 dX10_left_63 ?_
    refine j_icmp_ge (pc := 64) (tgt := 127) E dX10_left_64 (by decide) ?_ ?_
    · refine JF.sub [0, 1, 2, 3, 4, 5, 6] rfl ?_
      exact K127 v6 σ
    · refine j_iload (pc := 67) 6 rfl E dX10_left_67 ?_
      refine j_aload_n (pc := 69) rfl 0 rfl E dX10_left_69 ?_
      refine j_get (pc := 70) E xuX10 rfl s_85 (k := 0) (by decide) q_1082 rfl (xflds_ref rfl) dX10_left_70 ?_
      refine j_bipush (pc := 73) (v := 46) (by decide) E dX10_left_73 ?_
      refine j_iconst (pc := 75) (v := 3) (by decide) E dX10_left_75 ?_
      refine j_iload (pc := 76) 7 rfl E dX10_left_76 ?_
      refine j_imul (pc := 78) E dX10_left_78 ?_
      refine j_iadd (pc := 79) E dX10_left_79 ?_
      refine j_iconst (pc := 80) (v := 2) (by decide) E dX10_left_80 ?_
      refine j_iadd (pc := 81) E dX10_left_81 ?_
      refine j_iald (pc := 82) E s_86 dX10_left_82 ?_
      refine j_if_ne (pc := 83) (tgt := 117) E dX10_left_83 (by decide) ?_ ?_
      · refine j_aload_n (pc := 86) rfl 0 rfl E dX10_left_86 ?_
        refine j_get (pc := 87) E xuX10 rfl s_85 (k := 0) (by decide) q_1082 rfl (xflds_ref rfl) dX10_left_87 ?_
        refine j_bipush (pc := 90) (v := 42) (by decide) E dX10_left_90 ?_
        refine j_aload_n (pc := 92) rfl 0 rfl E dX10_left_92 ?_
        refine j_get (pc := 93) E xuX10 rfl s_85 (k := 0) (by decide) q_1082 rfl (xflds_ref rfl) dX10_left_93 ?_
        refine j_bipush (pc := 96) (v := 46) (by decide) E dX10_left_96 ?_
        refine j_iconst (pc := 98) (v := 3) (by decide) E dX10_left_98 ?_
        refine j_iload (pc := 99) 7 rfl E dX10_left_99 ?_
        refine j_imul (pc := 101) E dX10_left_101 ?_
        refine j_iadd (pc := 102) E dX10_left_102 ?_
        refine j_iconst (pc := 103) (v := 1) (by decide) E dX10_left_103 ?_
        refine j_iadd (pc := 104) E dX10_left_104 ?_
        refine j_iald (pc := 105) E s_86 dX10_left_105 ?_
        refine j_iadd (pc := 106) E dX10_left_106 ?_
        refine j_iald (pc := 107) E s_86 dX10_left_107 ?_
        refine j_iload (pc := 108) 4 rfl E dX10_left_108 ?_
        refine j_icmp_ne (pc := 110) (tgt := 117) E dX10_left_110 (by decide) ?_ ?_
        · refine j_iconst (pc := 113) (v := 1) (by decide) E dX10_left_113 ?_
          refine j_goto (pc := 114) (tgt := 118) E dX10_left_114 (by decide) ?_
          refine j_iadd (pc := 118) E dX10_left_118 ?_
          refine j_istore (pc := 119) (lv1 := [(6, .int (v6 + 1)), (0, .ref (xa X 85)), (1, .int v1), (2, .int v2), (3, .int v3), (4, .int v4), (5, .int v5), (7, .int v7)]) E dX10_left_119 (by decide) rfl ?_
          refine j_iinc (pc := 121) (v := (v7 + 1)) (lv1 := [(7, .int (v7 + 1)), (6, .int (v6 + 1)), (0, .ref (xa X 85)), (1, .int v1), (2, .int v2), (3, .int v3), (4, .int v4), (5, .int v5)]) E dX10_left_121 7 rfl rfl (by decide) rfl ?_
          refine j_goto (pc := 124) (tgt := 56) E dX10_left_124 (by decide) ?_
          refine JF.sub [2, 3, 4, 5, 6, 7, 1, 0] rfl ?_
          exact ih (v6 + 1) (v7 + 1) σ
        · refine j_iconst (pc := 117) (v := 0) (by decide) E dX10_left_117 ?_
          refine j_iadd (pc := 118) E dX10_left_118 ?_
          refine j_istore (pc := 119) (lv1 := [(6, .int (v6 + 0)), (0, .ref (xa X 85)), (1, .int v1), (2, .int v2), (3, .int v3), (4, .int v4), (5, .int v5), (7, .int v7)]) E dX10_left_119 (by decide) rfl ?_
          refine j_iinc (pc := 121) (v := (v7 + 1)) (lv1 := [(7, .int (v7 + 1)), (6, .int (v6 + 0)), (0, .ref (xa X 85)), (1, .int v1), (2, .int v2), (3, .int v3), (4, .int v4), (5, .int v5)]) E dX10_left_121 7 rfl rfl (by decide) rfl ?_
          refine j_goto (pc := 124) (tgt := 56) E dX10_left_124 (by decide) ?_
          refine JF.sub [2, 3, 4, 5, 6, 7, 1, 0] rfl ?_
          exact ih (v6 + 0) (v7 + 1) σ
      · refine j_iconst (pc := 117) (v := 0) (by decide) E dX10_left_117 ?_
        refine j_iadd (pc := 118) E dX10_left_118 ?_
        refine j_istore (pc := 119) (lv1 := [(6, .int (v6 + 0)), (0, .ref (xa X 85)), (1, .int v1), (2, .int v2), (3, .int v3), (4, .int v4), (5, .int v5), (7, .int v7)]) E dX10_left_119 (by decide) rfl ?_
        refine j_iinc (pc := 121) (v := (v7 + 1)) (lv1 := [(7, .int (v7 + 1)), (6, .int (v6 + 0)), (0, .ref (xa X 85)), (1, .int v1), (2, .int v2), (3, .int v3), (4, .int v4), (5, .int v5)]) E dX10_left_121 7 rfl rfl (by decide) rfl ?_
        refine j_goto (pc := 124) (tgt := 56) E dX10_left_124 (by decide) ?_
        refine JF.sub [2, 3, 4, 5, 6, 7, 1, 0] rfl ?_
        exact ih (v6 + 0) (v7 + 1) σ
def fX10_left_J142 (N : Nat) (v1 : Int32) (v2 : Int32) (v4 : Int32) (v5 : Int32) (t0 : Int32) (t1 : Int32) (k20 : Int32 → Int32 → Int32 → XS → Option XO) (σ : XS) : Option XO := if v5 = 0 then xB (fX10_portsOf N σ v4) (fun y7 m8 => k20 (v2 ||| y7) (t1 + t0) (v4 + 1) m8) else k20 (v2 ||| 0) (t1 + t0) (v4 + 1) σ
set_option maxRecDepth 100000 in
set_option maxHeartbeats 4000000 in
theorem lX10_left_J142 (N : Nat) (v1 : Int32) (v2 : Int32) (v4 : Int32) (v5 : Int32) (t0 : Int32) (t1 : Int32) (k20 : Int32 → Int32 → Int32 → XS → Option XO) {X : XC} {o : XO} (E : XE X cX10_left RX10 8 1 25) (R : XI X o cX10_left) (K20 : ∀ (v2 : Int32) (v3 : Int32) (v4 : Int32) (σ : XS), JF X o 8 20 [(0, .ref (xa X 85)), (1, .int v1), (2, .int v2), (3, .int v3), (4, .int v4)] [] σ (k20 v2 v3 v4 σ)) (σ : XS) : JF X o 8 142 [(0, .ref (xa X 85)), (1, .int v1), (2, .int v2), (4, .int v4), (5, .int v5)] [.int t0, .int t1] σ (fX10_left_J142 N v1 v2 v4 v5 t0 t1 k20 σ) := by
  show JF X o 8 142 [(0, .ref (xa X 85)), (1, .int v1), (2, .int v2), (4, .int v4), (5, .int v5)] [.int t0, .int t1] σ (if v5 = 0 then xB (fX10_portsOf N σ v4) (fun y7 m8 => k20 (v2 ||| y7) (t1 + t0) (v4 + 1) m8) else k20 (v2 ||| 0) (t1 + t0) (v4 + 1) σ)
  refine j_iadd (pc := 142) E dX10_left_142 ?_
  refine j_istore_n (pc := 143) (lv1 := [(3, .int (t1 + t0)), (0, .ref (xa X 85)), (1, .int v1), (2, .int v2), (4, .int v4), (5, .int v5)]) E dX10_left_143 rfl (by decide) rfl ?_
  refine j_iload_n (pc := 144) rfl 3 rfl E dX10_left_144 ?_
  refine j_iload (pc := 145) 5 rfl E dX10_left_145 ?_
  refine j_if_ne (pc := 147) (tgt := 159) E dX10_left_147 (by decide) ?_ ?_
  · refine j_aload_n (pc := 150) rfl 1 rfl E dX10_left_150 ?_
    refine j_iload (pc := 151) 4 rfl E dX10_left_151 ?_
    refine JF.xb (fun y7 m8 h9 => ?_)
    refine j_callVi (pc := 153) (st := [.int v2]) E (kX10_portsOf h9) mv_X10_portsOf rfl s_85 q_1260 [.int v4] rfl rfl rfl (by decide) (Nat.le_of_ble_eq_true rfl) dX10_left_153 ?_
    refine j_goto (pc := 156) (tgt := 160) E dX10_left_156 (by decide) ?_
    refine j_ior (pc := 160) E dX10_left_160 ?_
    refine j_istore_n (pc := 161) (lv1 := [(2, .int (v2 ||| y7)), (3, .int (t1 + t0)), (0, .ref (xa X 85)), (1, .int v1), (4, .int v4), (5, .int v5)]) E dX10_left_161 rfl (by decide) rfl ?_
    refine j_iinc (pc := 162) (v := (v4 + 1)) (lv1 := [(4, .int (v4 + 1)), (2, .int (v2 ||| y7)), (3, .int (t1 + t0)), (0, .ref (xa X 85)), (1, .int v1), (5, .int v5)]) E dX10_left_162 4 rfl rfl (by decide) rfl ?_
    refine j_goto (pc := 165) (tgt := 20) E dX10_left_165 (by decide) ?_
    refine JF.sub [3, 4, 1, 2, 0] rfl ?_
    exact K20 (v2 ||| y7) (t1 + t0) (v4 + 1) m8
  · refine j_iconst (pc := 159) (v := 0) (by decide) E dX10_left_159 ?_
    refine j_ior (pc := 160) E dX10_left_160 ?_
    refine j_istore_n (pc := 161) (lv1 := [(2, .int (v2 ||| 0)), (3, .int (t1 + t0)), (0, .ref (xa X 85)), (1, .int v1), (4, .int v4), (5, .int v5)]) E dX10_left_161 rfl (by decide) rfl ?_
    refine j_iinc (pc := 162) (v := (v4 + 1)) (lv1 := [(4, .int (v4 + 1)), (2, .int (v2 ||| 0)), (3, .int (t1 + t0)), (0, .ref (xa X 85)), (1, .int v1), (5, .int v5)]) E dX10_left_162 4 rfl rfl (by decide) rfl ?_
    refine j_goto (pc := 165) (tgt := 20) E dX10_left_165 (by decide) ?_
    refine JF.sub [3, 4, 1, 2, 0] rfl ?_
    exact K20 (v2 ||| 0) (t1 + t0) (v4 + 1) σ
def fX10_left_L20 (N : Nat) (v1 : Int32) (k168 : Int32 → Int32 → XS → Option XO) : Nat → Int32 → Int32 → Int32 → XS → Option XO
  | 0, _, _, _, _ => none
  | n + 1, v2, v3, v4, σ => if 6 ≤ v4 then k168 v2 v3 σ else gd (xin (73 + v4) 98) (gd (xin (67 + v4) 98) (xLetI ((σ 86 (73 + v4).toNatClampNeg) - (σ 86 (67 + v4).toNatClampNeg)) (fun x4 => fX10_left_L56 N v1 v2 v3 v4 x4 (fun x5 m6 => if x4 ≤ x5 then fX10_left_J142 N v1 v2 v4 x4 x4 v3 (fX10_left_L20 N v1 k168 n) m6 else fX10_left_J142 N v1 v2 v4 x4 x5 v3 (fX10_left_L20 N v1 k168 n) m6) N 0 0 σ)))
set_option maxRecDepth 100000 in
set_option maxHeartbeats 4000000 in
theorem lX10_left_L20 (N : Nat) (v1 : Int32) (k168 : Int32 → Int32 → XS → Option XO) {X : XC} {o : XO} (E : XE X cX10_left RX10 8 1 25) (R : XI X o cX10_left) (K168 : ∀ (v2 : Int32) (v3 : Int32) (σ : XS), JF X o 8 168 [(1, .int v1), (2, .int v2), (3, .int v3)] [] σ (k168 v2 v3 σ)) : ∀ (n : Nat) (v2 : Int32) (v3 : Int32) (v4 : Int32) (σ : XS), JF X o 8 20 [(0, .ref (xa X 85)), (1, .int v1), (2, .int v2), (3, .int v3), (4, .int v4)] [] σ (fX10_left_L20 N v1 k168 n v2 v3 v4 σ) := by
  intro n
  induction n with
  | zero => intro v2 v3 v4 σ; exact JF.none
  | succ n ih =>
    intro v2 v3 v4 σ
    show JF X o 8 20 [(0, .ref (xa X 85)), (1, .int v1), (2, .int v2), (3, .int v3), (4, .int v4)] [] σ (if 6 ≤ v4 then k168 v2 v3 σ else gd (xin (73 + v4) 98) (gd (xin (67 + v4) 98) (xLetI ((σ 86 (73 + v4).toNatClampNeg) - (σ 86 (67 + v4).toNatClampNeg)) (fun x4 => fX10_left_L56 N v1 v2 v3 v4 x4 (fun x5 m6 => if x4 ≤ x5 then fX10_left_J142 N v1 v2 v4 x4 x4 v3 (fX10_left_L20 N v1 k168 n) m6 else fX10_left_J142 N v1 v2 v4 x4 x5 v3 (fX10_left_L20 N v1 k168 n) m6) N 0 0 σ))))
    refine j_iload (pc := 20) 4 rfl E dX10_left_20 ?_
    refine j_bipush (pc := 22) (v := 6) (by decide) E dX10_left_22 ?_
    refine j_icmp_ge (pc := 24) (tgt := 168) E dX10_left_24 (by decide) ?_ ?_
    · refine JF.sub [1, 2, 3] rfl ?_
      exact K168 v2 v3 σ
    · refine j_aload_n (pc := 27) rfl 0 rfl E dX10_left_27 ?_
      refine j_get (pc := 28) E xuX10 rfl s_85 (k := 0) (by decide) q_1082 rfl (xflds_ref rfl) dX10_left_28 ?_
      refine j_bipush (pc := 31) (v := 73) (by decide) E dX10_left_31 ?_
      refine j_iload (pc := 33) 4 rfl E dX10_left_33 ?_
      refine j_iadd (pc := 35) E dX10_left_35 ?_
      refine j_iald (pc := 36) E s_86 dX10_left_36 ?_
      refine j_aload_n (pc := 37) rfl 0 rfl E dX10_left_37 ?_
      refine j_get (pc := 38) E xuX10 rfl s_85 (k := 0) (by decide) q_1082 rfl (xflds_ref rfl) dX10_left_38 ?_
      refine j_bipush (pc := 41) (v := 67) (by decide) E dX10_left_41 ?_
      refine j_iload (pc := 43) 4 rfl E dX10_left_43 ?_
      refine j_iadd (pc := 45) E dX10_left_45 ?_
      refine j_iald (pc := 46) E s_86 dX10_left_46 ?_
      refine j_isub (pc := 47) E dX10_left_47 ?_
      refine JF.xletI (fun x4 => ?_)
      refine j_istore (pc := 48) (lv1 := [(5, .int x4), (0, .ref (xa X 85)), (1, .int v1), (2, .int v2), (3, .int v3), (4, .int v4)]) E dX10_left_48 (by decide) rfl ?_
      refine j_iconst (pc := 50) (v := 0) (by decide) E dX10_left_50 ?_
      refine j_istore (pc := 51) (lv1 := [(6, .int 0), (5, .int x4), (0, .ref (xa X 85)), (1, .int v1), (2, .int v2), (3, .int v3), (4, .int v4)]) E dX10_left_51 (by decide) rfl ?_
      refine j_iconst (pc := 53) (v := 0) (by decide) E dX10_left_53 ?_
      refine j_istore (pc := 54) (lv1 := [(7, .int 0), (6, .int 0), (5, .int x4), (0, .ref (xa X 85)), (1, .int v1), (2, .int v2), (3, .int v3), (4, .int v4)]) E dX10_left_54 (by decide) rfl ?_
      refine JF.sub [3, 4, 5, 6, 7, 2, 1, 0] rfl ?_
      refine lX10_left_L56 N v1 v2 v3 v4 x4 _ E R (fun x5 m6 => ?_) N 0 0 σ
      · refine j_iload_n (pc := 127) rfl 3 rfl E dX10_left_127 ?_
        refine j_iload (pc := 128) 6 rfl E dX10_left_128 ?_
        refine j_iload (pc := 130) 5 rfl E dX10_left_130 ?_
        refine j_icmp_ge (pc := 132) (tgt := 140) E dX10_left_132 (by decide) ?_ ?_
        · refine j_iload (pc := 140) 5 rfl E dX10_left_140 ?_
          refine JF.sub [0, 1, 2, 4, 5] rfl ?_
          exact lX10_left_J142 N v1 v2 v4 x4 x4 v3 (fX10_left_L20 N v1 k168 n) E R ih m6
        · refine j_iload (pc := 135) 6 rfl E dX10_left_135 ?_
          refine j_goto (pc := 137) (tgt := 142) E dX10_left_137 (by decide) ?_
          refine JF.sub [0, 1, 2, 4, 5] rfl ?_
          exact lX10_left_J142 N v1 v2 v4 x4 x5 v3 (fX10_left_L20 N v1 k168 n) E R ih m6
def fX10_left (N : Nat) (σ : XS) (p1 : Int32) : Option XO := xB (fX10_in N σ p1.toInt64 0 1) (fun y1 m2 => if y1 = 0 then some ((-3), m2) else fX10_left_L20 N p1 (fun x10 x11 m12 => if p1 = 0 then some (x11, m12) else some (x10, m12)) N 0 0 0 m2)
set_option maxRecDepth 100000 in
set_option maxHeartbeats 4000000 in
theorem kX10_left {N : Nat} {σ : XS} {p1 : Int32} {o : XO} (h : fX10_left N σ p1 = some o) : CtI yX10_left cX10_left 8 (some .int) 1 25 (fun Am ad => [.ref (Am 85), .int p1]) σ o := by
  refine ct_int (by decide) (fun _ _ => Nat.le_of_ble_eq_true rfl) (fun X E R => ?_)
  rw [← h]
  show JF X o 8 0 [(0, .ref (xa X 85)), (1, .int p1)] [] σ (xB (fX10_in N σ p1.toInt64 0 1) (fun y1 m2 => if y1 = 0 then some ((-3), m2) else fX10_left_L20 N p1 (fun x10 x11 m12 => if p1 = 0 then some (x11, m12) else some (x10, m12)) N 0 0 0 m2))
  refine j_iload_n (pc := 0) rfl 1 rfl E dX10_left_0 ?_
  refine j_i2l (pc := 1) E dX10_left_1 ?_
  refine j_lconst (pc := 2) (v := 0) (by decide) E dX10_left_2 ?_
  refine j_lconst (pc := 3) (v := 1) (by decide) E dX10_left_3 ?_
  refine JF.xb (fun y1 m2 h3 => ?_)
  refine j_callSi (pc := 4) (st := []) E (kX10_in h3) mv_X10_in q_1079 [.long p1.toInt64, .long 0, .long 1] rfl rfl rfl (by decide) (Nat.le_of_ble_eq_true rfl) dX10_left_4 ?_
  refine j_if_ne (pc := 7) (tgt := 13) E dX10_left_7 (by decide) ?_ ?_
  · refine j_bipush (pc := 10) (v := (-3)) (by decide) E dX10_left_10 ?_
    exact j_iret (pc := 12) E R dX10_left_12
  · refine j_iconst (pc := 13) (v := 0) (by decide) E dX10_left_13 ?_
    refine j_istore_n (pc := 14) (lv1 := [(2, .int 0), (0, .ref (xa X 85)), (1, .int p1)]) E dX10_left_14 rfl (by decide) rfl ?_
    refine j_iconst (pc := 15) (v := 0) (by decide) E dX10_left_15 ?_
    refine j_istore_n (pc := 16) (lv1 := [(3, .int 0), (2, .int 0), (0, .ref (xa X 85)), (1, .int p1)]) E dX10_left_16 rfl (by decide) rfl ?_
    refine j_iconst (pc := 17) (v := 0) (by decide) E dX10_left_17 ?_
    refine j_istore (pc := 18) (lv1 := [(4, .int 0), (3, .int 0), (2, .int 0), (0, .ref (xa X 85)), (1, .int p1)]) E dX10_left_18 (by decide) rfl ?_
    refine JF.sub [3, 4, 2, 1, 0] rfl ?_
    refine lX10_left_L20 N p1 _ E R (fun x10 x11 m12 => ?_) N 0 0 0 m2
    · refine j_iload_n (pc := 168) rfl 0 rfl E dX10_left_168 ?_
      refine j_if_ne (pc := 169) (tgt := 176) E dX10_left_169 (by decide) ?_ ?_
      · refine j_iload_n (pc := 172) rfl 2 rfl E dX10_left_172 ?_
        refine j_goto (pc := 173) (tgt := 177) E dX10_left_173 (by decide) ?_
        exact j_iret (pc := 177) E R dX10_left_177
      · refine j_iload_n (pc := 176) rfl 1 rfl E dX10_left_176 ?_
        exact j_iret (pc := 177) E R dX10_left_177
def fX10_divisor_L4 (N : Nat) (k21 : Int32 → XS → Option XO) : Nat → Int32 → Int32 → XS → Option XO
  | 0, _, _, _ => none
  | n + 1, v2, v3, σ => if v3 = 0 then k21 v2 σ else gd (!decide (v3 = 0)) (xLetI (v2 - v2 / v3 * v3) (fun x1 => fX10_divisor_L4 N k21 n v3 x1 σ))
set_option maxRecDepth 100000 in
set_option maxHeartbeats 4000000 in
theorem lX10_divisor_L4 (N : Nat) (k21 : Int32 → XS → Option XO) {X : XC} {o : XO} (E : XE X cX10_divisor RX10 5 0 0) (R : XI X o cX10_divisor) (K21 : ∀ (v2 : Int32) (σ : XS), JF X o 5 21 [(2, .int v2)] [] σ (k21 v2 σ)) : ∀ (n : Nat) (v2 : Int32) (v3 : Int32) (σ : XS), JF X o 5 4 [(2, .int v2), (3, .int v3)] [] σ (fX10_divisor_L4 N k21 n v2 v3 σ) := by
  intro n
  induction n with
  | zero => intro v2 v3 σ; exact JF.none
  | succ n ih =>
    intro v2 v3 σ
    show JF X o 5 4 [(2, .int v2), (3, .int v3)] [] σ (if v3 = 0 then k21 v2 σ else gd (!decide (v3 = 0)) (xLetI (v2 - v2 / v3 * v3) (fun x1 => fX10_divisor_L4 N k21 n v3 x1 σ)))
    refine j_iload_n (pc := 4) rfl 1 rfl E dX10_divisor_4 ?_
    refine j_if_eq (pc := 5) (tgt := 21) E dX10_divisor_5 (by decide) ?_ ?_
    · refine JF.sub [0] rfl ?_
      exact K21 v2 σ
    · refine j_iload_n (pc := 8) rfl 0 rfl E dX10_divisor_8 ?_
      refine j_iload_n (pc := 9) rfl 1 rfl E dX10_divisor_9 ?_
      refine j_irem (pc := 10) E dX10_divisor_10 ?_
      refine JF.xletI (fun x1 => ?_)
      refine j_istore (pc := 11) (lv1 := [(4, .int x1), (2, .int v2), (3, .int v3)]) E dX10_divisor_11 (by decide) rfl ?_
      refine j_iload_n (pc := 13) rfl 2 rfl E dX10_divisor_13 ?_
      refine j_istore_n (pc := 14) (lv1 := [(2, .int v3), (4, .int x1), (3, .int v3)]) E dX10_divisor_14 rfl (by decide) rfl ?_
      refine j_iload (pc := 15) 1 rfl E dX10_divisor_15 ?_
      refine j_istore_n (pc := 17) (lv1 := [(3, .int x1), (2, .int v3), (4, .int x1)]) E dX10_divisor_17 rfl (by decide) rfl ?_
      refine j_goto (pc := 18) (tgt := 4) E dX10_divisor_18 (by decide) ?_
      refine JF.sub [1, 0] rfl ?_
      exact ih v3 x1 σ
def fX10_divisor (N : Nat) (σ : XS) (p1 : Int32) (p2 : Int32) : Option XO := fX10_divisor_L4 N (fun x2 m3 => some (x2, m3)) N p1 p2 σ
set_option maxRecDepth 100000 in
set_option maxHeartbeats 4000000 in
theorem kX10_divisor {N : Nat} {σ : XS} {p1 : Int32} {p2 : Int32} {o : XO} (h : fX10_divisor N σ p1 p2 = some o) : CtI yX10_divisor cX10_divisor 5 (some .int) 0 0 (fun Am ad => [.int p1, .int p2]) σ o := by
  refine ct_int (by decide) (fun _ _ => Nat.le_of_ble_eq_true rfl) (fun X E R => ?_)
  rw [← h]
  show JF X o 5 0 [(0, .int p1), (1, .int p2)] [] σ (fX10_divisor_L4 N (fun x2 m3 => some (x2, m3)) N p1 p2 σ)
  refine j_iload_n (pc := 0) rfl 0 rfl E dX10_divisor_0 ?_
  refine j_istore_n (pc := 1) (lv1 := [(2, .int p1), (0, .int p1), (1, .int p2)]) E dX10_divisor_1 rfl (by decide) rfl ?_
  refine j_iload_n (pc := 2) rfl 2 rfl E dX10_divisor_2 ?_
  refine j_istore_n (pc := 3) (lv1 := [(3, .int p2), (2, .int p1), (0, .int p1), (1, .int p2)]) E dX10_divisor_3 rfl (by decide) rfl ?_
  refine JF.sub [1, 0] rfl ?_
  refine lX10_divisor_L4 N _ E R (fun x2 m3 => ?_) N p1 p2 σ
  · refine j_iload_n (pc := 21) rfl 0 rfl E dX10_divisor_21 ?_
    exact j_iret (pc := 22) E R dX10_divisor_22
def fX10_odds_L63 (N : Nat) (v1 : Int32) (v2 : Int32) (v3 : Int32) (v4 : Int32) (v5 : Int32) (k107 : Int32 → XS → Option XO) : Nat → Int32 → Int32 → XS → Option XO
  | 0, _, _, _ => none
  | n + 1, v6, v7, σ => if v5 ≤ v7 then k107 v6 σ else xB (fX10_lays N σ v7 v3) (fun _ m14 => xB (fX10_isPassed N m14 94 v3 v1 v2) (fun y16 m17 => if y16 = 0 then fX10_odds_L63 N v1 v2 v3 v4 v5 k107 n (v6 + 0) (v7 + 1) m17 else fX10_odds_L63 N v1 v2 v3 v4 v5 k107 n (v6 + 1) (v7 + 1) m17))
set_option maxRecDepth 100000 in
set_option maxHeartbeats 4000000 in
theorem lX10_odds_L63 (N : Nat) (v1 : Int32) (v2 : Int32) (v3 : Int32) (v4 : Int32) (v5 : Int32) (k107 : Int32 → XS → Option XO) {X : XC} {o : XO} (E : XE X cX10_odds RX10 8 4 96) (R : XI X o cX10_odds) (K107 : ∀ (v6 : Int32) (σ : XS), JF X o 8 107 [(4, .int v4), (5, .int v5), (6, .int v6)] [] σ (k107 v6 σ)) : ∀ (n : Nat) (v6 : Int32) (v7 : Int32) (σ : XS), JF X o 8 63 [(0, .ref (xa X 85)), (1, .int v1), (2, .int v2), (3, .int v3), (4, .int v4), (5, .int v5), (6, .int v6), (7, .int v7)] [] σ (fX10_odds_L63 N v1 v2 v3 v4 v5 k107 n v6 v7 σ) := by
  intro n
  induction n with
  | zero => intro v6 v7 σ; exact JF.none
  | succ n ih =>
    intro v6 v7 σ
    show JF X o 8 63 [(0, .ref (xa X 85)), (1, .int v1), (2, .int v2), (3, .int v3), (4, .int v4), (5, .int v5), (6, .int v6), (7, .int v7)] [] σ (if v5 ≤ v7 then k107 v6 σ else xB (fX10_lays N σ v7 v3) (fun _ m14 => xB (fX10_isPassed N m14 94 v3 v1 v2) (fun y16 m17 => if y16 = 0 then fX10_odds_L63 N v1 v2 v3 v4 v5 k107 n (v6 + 0) (v7 + 1) m17 else fX10_odds_L63 N v1 v2 v3 v4 v5 k107 n (v6 + 1) (v7 + 1) m17)))
    refine j_iload (pc := 63) 7 rfl E dX10_odds_63 ?_
    refine j_iload (pc := 65) 5 rfl E dX10_odds_65 ?_
    refine j_icmp_ge (pc := 67) (tgt := 107) E dX10_odds_67 (by decide) ?_ ?_
    · refine JF.sub [4, 5, 6] rfl ?_
      exact K107 v6 σ
    · refine j_aload_n (pc := 70) rfl 0 rfl E dX10_odds_70 ?_
      refine j_iload (pc := 71) 7 rfl E dX10_odds_71 ?_
      refine j_iload_n (pc := 73) rfl 3 rfl E dX10_odds_73 ?_
      refine JF.xb (fun y13 m14 h15 => ?_)
      refine j_callVv (pc := 74) (st := []) E (kX10_lays h15) mv_X10_lays rfl s_85 q_1377 [.int v7, .int v3] rfl rfl rfl (by decide) (Nat.le_of_ble_eq_true rfl) dX10_odds_74 ?_
      refine j_iload (pc := 77) 6 rfl E dX10_odds_77 ?_
      refine j_aload_n (pc := 79) rfl 0 rfl E dX10_odds_79 ?_
      refine j_aload_n (pc := 80) rfl 0 rfl E dX10_odds_80 ?_
      refine j_get (pc := 81) E xuX10 rfl s_85 (k := 21) (by decide) q_1103 rfl (xflds_ref rfl) dX10_odds_81 ?_
      refine j_iload_n (pc := 84) rfl 3 rfl E dX10_odds_84 ?_
      refine j_iload_n (pc := 85) rfl 1 rfl E dX10_odds_85 ?_
      refine j_iload_n (pc := 86) rfl 2 rfl E dX10_odds_86 ?_
      refine JF.xb (fun y16 m17 h18 => ?_)
      refine j_callVi (pc := 87) (st := [.int v6]) E (kX10_isPassed xr_94 h18) mv_X10_isPassed rfl s_85 q_1321 [.ref (xa X 94), .int v3, .int v1, .int v2] rfl rfl rfl (by decide) (Nat.le_of_ble_eq_true rfl) dX10_odds_87 ?_
      refine j_if_eq (pc := 90) (tgt := 97) E dX10_odds_90 (by decide) ?_ ?_
      · refine j_iconst (pc := 97) (v := 0) (by decide) E dX10_odds_97 ?_
        refine j_iadd (pc := 98) E dX10_odds_98 ?_
        refine j_istore (pc := 99) (lv1 := [(6, .int (v6 + 0)), (0, .ref (xa X 85)), (1, .int v1), (2, .int v2), (3, .int v3), (4, .int v4), (5, .int v5), (7, .int v7)]) E dX10_odds_99 (by decide) rfl ?_
        refine j_iinc (pc := 101) (v := (v7 + 1)) (lv1 := [(7, .int (v7 + 1)), (6, .int (v6 + 0)), (0, .ref (xa X 85)), (1, .int v1), (2, .int v2), (3, .int v3), (4, .int v4), (5, .int v5)]) E dX10_odds_101 7 rfl rfl (by decide) rfl ?_
        refine j_goto (pc := 104) (tgt := 63) E dX10_odds_104 (by decide) ?_
        refine JF.sub [2, 3, 4, 5, 6, 7, 1, 0] rfl ?_
        exact ih (v6 + 0) (v7 + 1) m17
      · refine j_iconst (pc := 93) (v := 1) (by decide) E dX10_odds_93 ?_
        refine j_goto (pc := 94) (tgt := 98) E dX10_odds_94 (by decide) ?_
        refine j_iadd (pc := 98) E dX10_odds_98 ?_
        refine j_istore (pc := 99) (lv1 := [(6, .int (v6 + 1)), (0, .ref (xa X 85)), (1, .int v1), (2, .int v2), (3, .int v3), (4, .int v4), (5, .int v5), (7, .int v7)]) E dX10_odds_99 (by decide) rfl ?_
        refine j_iinc (pc := 101) (v := (v7 + 1)) (lv1 := [(7, .int (v7 + 1)), (6, .int (v6 + 1)), (0, .ref (xa X 85)), (1, .int v1), (2, .int v2), (3, .int v3), (4, .int v4), (5, .int v5)]) E dX10_odds_101 7 rfl rfl (by decide) rfl ?_
        refine j_goto (pc := 104) (tgt := 63) E dX10_odds_104 (by decide) ?_
        refine JF.sub [2, 3, 4, 5, 6, 7, 1, 0] rfl ?_
        exact ih (v6 + 1) (v7 + 1) m17
def fX10_odds (N : Nat) (σ : XS) (p1 : Int32) (p2 : Int32) (p3 : Int32) (p4 : Int32) : Option XO := xB (fX10_areBoth N σ p1 p2) (fun y1 m2 => if y1 = 0 then some ((-2), m2) else xB (fX10_in N m2 p3.toInt64 1 4) (fun y4 m5 => if y4 = 0 then some ((-3), m5) else xB (fX10_in N m5 p4.toInt64 0 1) (fun y7 m8 => if y7 = 0 then some ((-3), m8) else gd (xin 0 98) (if (m8 86 (0 : Int32).toNatClampNeg) = 0 then some ((-4), m8) else xB (fX10_ways N m8 p3) (fun y10 m11 => fX10_odds_L63 N p1 p2 p3 p4 y10 (fun x19 m20 => xB (fX10_divisor N m20 x19 y10) (fun y21 m22 => if p4 = 0 then gd (!decide (y21 = 0)) (some ((x19 / y21), m22)) else gd (!decide (y21 = 0)) (some ((y10 / y21), m22)))) N 0 0 m11)))))
set_option maxRecDepth 100000 in
set_option maxHeartbeats 4000000 in
theorem kX10_odds {N : Nat} {σ : XS} {p1 : Int32} {p2 : Int32} {p3 : Int32} {p4 : Int32} {o : XO} (h : fX10_odds N σ p1 p2 p3 p4 = some o) : CtI yX10_odds cX10_odds 8 (some .int) 4 96 (fun Am ad => [.ref (Am 85), .int p1, .int p2, .int p3, .int p4]) σ o := by
  refine ct_int (by decide) (fun _ _ => Nat.le_of_ble_eq_true rfl) (fun X E R => ?_)
  rw [← h]
  show JF X o 8 0 [(0, .ref (xa X 85)), (1, .int p1), (2, .int p2), (3, .int p3), (4, .int p4)] [] σ (xB (fX10_areBoth N σ p1 p2) (fun y1 m2 => if y1 = 0 then some ((-2), m2) else xB (fX10_in N m2 p3.toInt64 1 4) (fun y4 m5 => if y4 = 0 then some ((-3), m5) else xB (fX10_in N m5 p4.toInt64 0 1) (fun y7 m8 => if y7 = 0 then some ((-3), m8) else gd (xin 0 98) (if (m8 86 (0 : Int32).toNatClampNeg) = 0 then some ((-4), m8) else xB (fX10_ways N m8 p3) (fun y10 m11 => fX10_odds_L63 N p1 p2 p3 p4 y10 (fun x19 m20 => xB (fX10_divisor N m20 x19 y10) (fun y21 m22 => if p4 = 0 then gd (!decide (y21 = 0)) (some ((x19 / y21), m22)) else gd (!decide (y21 = 0)) (some ((y10 / y21), m22)))) N 0 0 m11))))))
  refine j_aload_n (pc := 0) rfl 0 rfl E dX10_odds_0 ?_
  refine j_iload_n (pc := 1) rfl 1 rfl E dX10_odds_1 ?_
  refine j_iload_n (pc := 2) rfl 2 rfl E dX10_odds_2 ?_
  refine JF.xb (fun y1 m2 h3 => ?_)
  refine j_callVi (pc := 3) (st := []) E (kX10_areBoth h3) mv_X10_areBoth rfl s_85 q_1317 [.int p1, .int p2] rfl rfl rfl (by decide) (Nat.le_of_ble_eq_true rfl) dX10_odds_3 ?_
  refine j_if_ne (pc := 6) (tgt := 12) E dX10_odds_6 (by decide) ?_ ?_
  · refine j_bipush (pc := 9) (v := (-2)) (by decide) E dX10_odds_9 ?_
    exact j_iret (pc := 11) E R dX10_odds_11
  · refine j_iload_n (pc := 12) rfl 3 rfl E dX10_odds_12 ?_
    refine j_i2l (pc := 13) E dX10_odds_13 ?_
    refine j_lconst (pc := 14) (v := 1) (by decide) E dX10_odds_14 ?_
    refine j_ldc2 (pc := 15) (v := 4) E q_1268 dX10_odds_15 ?_
    refine JF.xb (fun y4 m5 h6 => ?_)
    refine j_callSi (pc := 18) (st := []) E (kX10_in h6) mv_X10_in q_1079 [.long p3.toInt64, .long 1, .long 4] rfl rfl rfl (by decide) (Nat.le_of_ble_eq_true rfl) dX10_odds_18 ?_
    refine j_if_eq (pc := 21) (tgt := 35) E dX10_odds_21 (by decide) ?_ ?_
    · refine j_bipush (pc := 35) (v := (-3)) (by decide) E dX10_odds_35 ?_
      exact j_iret (pc := 37) E R dX10_odds_37
    · refine j_iload (pc := 24) 4 rfl E dX10_odds_24 ?_
      refine j_i2l (pc := 26) E dX10_odds_26 ?_
      refine j_lconst (pc := 27) (v := 0) (by decide) E dX10_odds_27 ?_
      refine j_lconst (pc := 28) (v := 1) (by decide) E dX10_odds_28 ?_
      refine JF.xb (fun y7 m8 h9 => ?_)
      refine j_callSi (pc := 29) (st := []) E (kX10_in h9) mv_X10_in q_1079 [.long p4.toInt64, .long 0, .long 1] rfl rfl rfl (by decide) (Nat.le_of_ble_eq_true rfl) dX10_odds_29 ?_
      refine j_if_ne (pc := 32) (tgt := 38) E dX10_odds_32 (by decide) ?_ ?_
      · refine j_bipush (pc := 35) (v := (-3)) (by decide) E dX10_odds_35 ?_
        exact j_iret (pc := 37) E R dX10_odds_37
      · refine j_aload_n (pc := 38) rfl 0 rfl E dX10_odds_38 ?_
        refine j_get (pc := 39) E xuX10 rfl s_85 (k := 0) (by decide) q_1082 rfl (xflds_ref rfl) dX10_odds_39 ?_
        refine j_iconst (pc := 42) (v := 0) (by decide) E dX10_odds_42 ?_
        refine j_iald (pc := 43) E s_86 dX10_odds_43 ?_
        refine j_if_ne (pc := 44) (tgt := 50) E dX10_odds_44 (by decide) ?_ ?_
        · refine j_bipush (pc := 47) (v := (-4)) (by decide) E dX10_odds_47 ?_
          exact j_iret (pc := 49) E R dX10_odds_49
        · refine j_aload_n (pc := 50) rfl 0 rfl E dX10_odds_50 ?_
          refine j_iload_n (pc := 51) rfl 3 rfl E dX10_odds_51 ?_
          refine JF.xb (fun y10 m11 h12 => ?_)
          refine j_callVi (pc := 52) (st := []) E (kX10_ways h12) mv_X10_ways rfl s_85 q_1373 [.int p3] rfl rfl rfl (by decide) (Nat.le_of_ble_eq_true rfl) dX10_odds_52 ?_
          refine j_istore (pc := 55) (lv1 := [(5, .int y10), (0, .ref (xa X 85)), (1, .int p1), (2, .int p2), (3, .int p3), (4, .int p4)]) E dX10_odds_55 (by decide) rfl ?_
          refine j_iconst (pc := 57) (v := 0) (by decide) E dX10_odds_57 ?_
          refine j_istore (pc := 58) (lv1 := [(6, .int 0), (5, .int y10), (0, .ref (xa X 85)), (1, .int p1), (2, .int p2), (3, .int p3), (4, .int p4)]) E dX10_odds_58 (by decide) rfl ?_
          refine j_iconst (pc := 60) (v := 0) (by decide) E dX10_odds_60 ?_
          refine j_istore (pc := 61) (lv1 := [(7, .int 0), (6, .int 0), (5, .int y10), (0, .ref (xa X 85)), (1, .int p1), (2, .int p2), (3, .int p3), (4, .int p4)]) E dX10_odds_61 (by decide) rfl ?_
          refine JF.sub [3, 4, 5, 6, 7, 2, 1, 0] rfl ?_
          refine lX10_odds_L63 N p1 p2 p3 p4 y10 _ E R (fun x19 m20 => ?_) N 0 0 m11
          · refine j_iload (pc := 107) 2 rfl E dX10_odds_107 ?_
            refine j_iload (pc := 109) 1 rfl E dX10_odds_109 ?_
            refine JF.xb (fun y21 m22 h23 => ?_)
            refine j_callSi (pc := 111) (st := []) E (kX10_divisor h23) mv_X10_divisor q_1422 [.int x19, .int y10] rfl rfl rfl (by decide) (Nat.le_of_ble_eq_true rfl) dX10_odds_111 ?_
            refine j_istore (pc := 114) (lv1 := [(7, .int y21), (4, .int p4), (5, .int y10), (6, .int x19)]) E dX10_odds_114 (by decide) rfl ?_
            refine j_iload (pc := 116) 1 rfl E dX10_odds_116 ?_
            refine j_if_ne (pc := 118) (tgt := 129) E dX10_odds_118 (by decide) ?_ ?_
            · refine j_iload (pc := 121) 3 rfl E dX10_odds_121 ?_
              refine j_iload (pc := 123) 0 rfl E dX10_odds_123 ?_
              refine j_idiv (pc := 125) E dX10_odds_125 ?_
              refine j_goto (pc := 126) (tgt := 134) E dX10_odds_126 (by decide) ?_
              exact j_iret (pc := 134) E R dX10_odds_134
            · refine j_iload (pc := 129) 2 rfl E dX10_odds_129 ?_
              refine j_iload (pc := 131) 0 rfl E dX10_odds_131 ?_
              refine j_idiv (pc := 133) E dX10_odds_133 ?_
              exact j_iret (pc := 134) E R dX10_odds_134
