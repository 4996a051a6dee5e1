def fX10_year_L14 (N : Nat) (k41 : XS → Option XO) : Nat → Int32 → XS → Option XO
  | 0, _, _ => none
  | n + 1, v1, σ => if 6 ≤ v1 then k41 σ else gd (xin (67 + v1) 98) (xLet (xUp σ 96 v1.toNatClampNeg (σ 86 (67 + v1).toNatClampNeg)) (fun m1 => gd (xin v1 6) (fX10_year_L14 N k41 n (v1 + 1) m1)))
set_option maxRecDepth 100000 in
set_option maxHeartbeats 4000000 in
theorem lX10_year_L14 (N : Nat) (k41 : XS → Option XO) {X : XC} {o : XO} (E : XE X cX10_year RX10 5 6 146) (R : XI X o cX10_year) (K41 : ∀ (σ : XS), JF X o 5 41 [(0, .ref (xa X 85))] [] σ (k41 σ)) : ∀ (n : Nat) (v1 : Int32) (σ : XS), JF X o 5 14 [(0, .ref (xa X 85)), (1, .int v1)] [] σ (fX10_year_L14 N k41 n v1 σ) := by
  intro n
  induction n with
  | zero => intro v1 σ; exact JF.none
  | succ n ih =>
    intro v1 σ
    show JF X o 5 14 [(0, .ref (xa X 85)), (1, .int v1)] [] σ (if 6 ≤ v1 then k41 σ else gd (xin (67 + v1) 98) (xLet (xUp σ 96 v1.toNatClampNeg (σ 86 (67 + v1).toNatClampNeg)) (fun m1 => gd (xin v1 6) (fX10_year_L14 N k41 n (v1 + 1) m1))))
    refine j_iload_n (pc := 14) rfl 1 rfl E dX10_year_14 ?_
    refine j_bipush (pc := 15) (v := 6) (by decide) E dX10_year_15 ?_
    refine j_icmp_ge (pc := 17) (tgt := 41) E dX10_year_17 (by decide) ?_ ?_
    · refine JF.sub [0] rfl ?_
      exact K41  σ
    · refine j_aload_n (pc := 20) rfl 0 rfl E dX10_year_20 ?_
      refine j_get (pc := 21) E xuX10 rfl s_85 (k := 24) (by decide) q_1106 rfl (xflds_ref rfl) dX10_year_21 ?_
      refine j_iload_n (pc := 24) rfl 1 rfl E dX10_year_24 ?_
      refine j_aload_n (pc := 25) rfl 0 rfl E dX10_year_25 ?_
      refine j_get (pc := 26) E xuX10 rfl s_85 (k := 0) (by decide) q_1082 rfl (xflds_ref rfl) dX10_year_26 ?_
      refine j_bipush (pc := 29) (v := 67) (by decide) E dX10_year_29 ?_
      refine j_iload_n (pc := 31) rfl 1 rfl E dX10_year_31 ?_
      refine j_iadd (pc := 32) E dX10_year_32 ?_
      refine j_iald (pc := 33) E s_86 dX10_year_33 ?_
      refine JF.xlet (fun m1 e2 => ?_)
      refine j_iast (pc := 34) E s_96 dX10_year_34 e2 ?_
      refine j_iinc (pc := 35) (v := (v1 + 1)) (lv1 := [(1, .int (v1 + 1)), (0, .ref (xa X 85))]) E dX10_year_35 1 rfl rfl (by decide) rfl ?_
      refine j_goto (pc := 38) (tgt := 14) E dX10_year_38 (by decide) ?_
      refine JF.sub [1, 0] rfl ?_
      exact ih (v1 + 1) m1
def fX10_year_J143 (N : Nat) (v2 : Int32) (v3 : Int32) (v4 : Int32) (t0 : Int32) (t1 : Int32) (k45 : Int32 → Int32 → XS → Option XO) (σ : XS) : Option XO := if v4 = 0 then k45 (t1 + t0) (v2 + 1) σ else gd (xin (v3 - 1) 6) (gd (xin ((6 + (4 * (σ 95 (v3 - 1).toNatClampNeg))) + 3) 98) (gd (xin (σ 86 ((6 + (4 * (σ 95 (v3 - 1).toNatClampNeg))) + 3).toNatClampNeg) 6) (gd (xin (v3 - 1) 6) (xB (fX10_kindOf N σ (σ 95 (v3 - 1).toNatClampNeg)) (fun y8 m9 => if y8 = 2 then xLet (xUp m9 96 (σ 86 ((6 + (4 * (σ 95 (v3 - 1).toNatClampNeg))) + 3).toNatClampNeg).toNatClampNeg ((σ 96 (σ 86 ((6 + (4 * (σ 95 (v3 - 1).toNatClampNeg))) + 3).toNatClampNeg).toNatClampNeg) + 0)) (fun m14 => gd (xin (σ 86 ((6 + (4 * (σ 95 (v3 - 1).toNatClampNeg))) + 3).toNatClampNeg) 6) (k45 (t1 + t0) (v2 + 1) m14)) else xLet (xUp m9 96 (σ 86 ((6 + (4 * (σ 95 (v3 - 1).toNatClampNeg))) + 3).toNatClampNeg).toNatClampNeg ((σ 96 (σ 86 ((6 + (4 * (σ 95 (v3 - 1).toNatClampNeg))) + 3).toNatClampNeg).toNatClampNeg) + 1)) (fun m11 => gd (xin (σ 86 ((6 + (4 * (σ 95 (v3 - 1).toNatClampNeg))) + 3).toNatClampNeg) 6) (k45 (t1 + t0) (v2 + 1) m11)))))))
set_option maxRecDepth 100000 in
set_option maxHeartbeats 4000000 in
theorem lX10_year_J143 (N : Nat) (v2 : Int32) (v3 : Int32) (v4 : Int32) (t0 : Int32) (t1 : Int32) (k45 : Int32 → Int32 → XS → Option XO) {X : XC} {o : XO} (E : XE X cX10_year RX10 5 6 146) (R : XI X o cX10_year) (K45 : ∀ (v1 : Int32) (v2 : Int32) (σ : XS), JF X o 5 45 [(0, .ref (xa X 85)), (1, .int v1), (2, .int v2)] [] σ (k45 v1 v2 σ)) (σ : XS) : JF X o 5 143 [(0, .ref (xa X 85)), (2, .int v2), (3, .int v3), (4, .int v4)] [.int t0, .int t1] σ (fX10_year_J143 N v2 v3 v4 t0 t1 k45 σ) := by
  show JF X o 5 143 [(0, .ref (xa X 85)), (2, .int v2), (3, .int v3), (4, .int v4)] [.int t0, .int t1] σ (if v4 = 0 then k45 (t1 + t0) (v2 + 1) σ else gd (xin (v3 - 1) 6) (gd (xin ((6 + (4 * (σ 95 (v3 - 1).toNatClampNeg))) + 3) 98) (gd (xin (σ 86 ((6 + (4 * (σ 95 (v3 - 1).toNatClampNeg))) + 3).toNatClampNeg) 6) (gd (xin (v3 - 1) 6) (xB (fX10_kindOf N σ (σ 95 (v3 - 1).toNatClampNeg)) (fun y8 m9 => if y8 = 2 then xLet (xUp m9 96 (σ 86 ((6 + (4 * (σ 95 (v3 - 1).toNatClampNeg))) + 3).toNatClampNeg).toNatClampNeg ((σ 96 (σ 86 ((6 + (4 * (σ 95 (v3 - 1).toNatClampNeg))) + 3).toNatClampNeg).toNatClampNeg) + 0)) (fun m14 => gd (xin (σ 86 ((6 + (4 * (σ 95 (v3 - 1).toNatClampNeg))) + 3).toNatClampNeg) 6) (k45 (t1 + t0) (v2 + 1) m14)) else xLet (xUp m9 96 (σ 86 ((6 + (4 * (σ 95 (v3 - 1).toNatClampNeg))) + 3).toNatClampNeg).toNatClampNeg ((σ 96 (σ 86 ((6 + (4 * (σ 95 (v3 - 1).toNatClampNeg))) + 3).toNatClampNeg).toNatClampNeg) + 1)) (fun m11 => gd (xin (σ 86 ((6 + (4 * (σ 95 (v3 - 1).toNatClampNeg))) + 3).toNatClampNeg) 6) (k45 (t1 + t0) (v2 + 1) m11))))))))
  refine j_iadd (pc := 143) E dX10_year_143 ?_
  refine j_istore_n (pc := 144) (lv1 := [(1, .int (t1 + t0)), (0, .ref (xa X 85)), (2, .int v2), (3, .int v3), (4, .int v4)]) E dX10_year_144 rfl (by decide) rfl ?_
  refine j_iload (pc := 145) 4 rfl E dX10_year_145 ?_
  refine j_if_eq (pc := 147) (tgt := 199) E dX10_year_147 (by decide) ?_ ?_
  · refine j_iinc (pc := 199) (v := (v2 + 1)) (lv1 := [(2, .int (v2 + 1)), (1, .int (t1 + t0)), (0, .ref (xa X 85)), (3, .int v3), (4, .int v4)]) E dX10_year_199 2 rfl rfl (by decide) rfl ?_
    refine j_goto (pc := 202) (tgt := 45) E dX10_year_202 (by decide) ?_
    refine JF.sub [2, 1, 0] rfl ?_
    exact K45 (t1 + t0) (v2 + 1) σ
  · refine j_aload_n (pc := 150) rfl 1 rfl E dX10_year_150 ?_
    refine j_get (pc := 151) E xuX10 rfl s_85 (k := 24) (by decide) q_1106 rfl (xflds_ref rfl) dX10_year_151 ?_
    refine j_aload_n (pc := 154) rfl 1 rfl E dX10_year_154 ?_
    refine j_get (pc := 155) E xuX10 rfl s_85 (k := 0) (by decide) q_1082 rfl (xflds_ref rfl) dX10_year_155 ?_
    refine j_bipush (pc := 158) (v := 6) (by decide) E dX10_year_158 ?_
    refine j_iconst (pc := 160) (v := 4) (by decide) E dX10_year_160 ?_
    refine j_aload_n (pc := 161) rfl 1 rfl E dX10_year_161 ?_
    refine j_get (pc := 162) E xuX10 rfl s_85 (k := 22) (by decide) q_1104 rfl (xflds_ref rfl) dX10_year_162 ?_
    refine j_iload_n (pc := 165) rfl 3 rfl E dX10_year_165 ?_
    refine j_iconst (pc := 166) (v := 1) (by decide) E dX10_year_166 ?_
    refine j_isub (pc := 167) E dX10_year_167 ?_
    refine j_iald (pc := 168) E s_95 dX10_year_168 ?_
    refine j_imul (pc := 169) E dX10_year_169 ?_
    refine j_iadd (pc := 170) E dX10_year_170 ?_
    refine j_iconst (pc := 171) (v := 3) (by decide) E dX10_year_171 ?_
    refine j_iadd (pc := 172) E dX10_year_172 ?_
    refine j_iald (pc := 173) E s_86 dX10_year_173 ?_
    refine j_dup2 (pc := 174) rfl rfl E dX10_year_174 ?_
    refine j_iald (pc := 175) E s_96 dX10_year_175 ?_
    refine j_aload_n (pc := 176) rfl 1 rfl E dX10_year_176 ?_
    refine j_aload_n (pc := 177) rfl 1 rfl E dX10_year_177 ?_
    refine j_get (pc := 178) E xuX10 rfl s_85 (k := 22) (by decide) q_1104 rfl (xflds_ref rfl) dX10_year_178 ?_
    refine j_iload_n (pc := 181) rfl 3 rfl E dX10_year_181 ?_
    refine j_iconst (pc := 182) (v := 1) (by decide) E dX10_year_182 ?_
    refine j_isub (pc := 183) E dX10_year_183 ?_
    refine j_iald (pc := 184) E s_95 dX10_year_184 ?_
    refine JF.xb (fun y8 m9 h10 => ?_)
    refine j_callVi (pc := 185) (st := [.int (σ 96 (σ 86 ((6 + (4 * (σ 95 (v3 - 1).toNatClampNeg))) + 3).toNatClampNeg).toNatClampNeg), .int (σ 86 ((6 + (4 * (σ 95 (v3 - 1).toNatClampNeg))) + 3).toNatClampNeg), .ref (xa X 96)]) E (kX10_kindOf h10) mv_X10_kindOf rfl s_85 q_1269 [.int (σ 95 (v3 - 1).toNatClampNeg)] rfl rfl rfl (by decide) (Nat.le_of_ble_eq_true rfl) dX10_year_185 ?_
    refine j_iconst (pc := 188) (v := 2) (by decide) E dX10_year_188 ?_
    refine j_icmp_ne (pc := 189) (tgt := 196) E dX10_year_189 (by decide) ?_ ?_
    · refine j_iconst (pc := 192) (v := 0) (by decide) E dX10_year_192 ?_
      refine j_goto (pc := 193) (tgt := 197) E dX10_year_193 (by decide) ?_
      refine j_iadd (pc := 197) E dX10_year_197 ?_
      refine JF.xlet (fun m14 e15 => ?_)
      refine j_iast (pc := 198) E s_96 dX10_year_198 e15 ?_
      refine j_iinc (pc := 199) (v := (v2 + 1)) (lv1 := [(2, .int (v2 + 1)), (1, .int (t1 + t0)), (0, .ref (xa X 85)), (3, .int v3), (4, .int v4)]) E dX10_year_199 2 rfl rfl (by decide) rfl ?_
      refine j_goto (pc := 202) (tgt := 45) E dX10_year_202 (by decide) ?_
      refine JF.sub [2, 1, 0] rfl ?_
      exact K45 (t1 + t0) (v2 + 1) m14
    · refine j_iconst (pc := 196) (v := 1) (by decide) E dX10_year_196 ?_
      refine j_iadd (pc := 197) E dX10_year_197 ?_
      refine JF.xlet (fun m11 e12 => ?_)
      refine j_iast (pc := 198) E s_96 dX10_year_198 e12 ?_
      refine j_iinc (pc := 199) (v := (v2 + 1)) (lv1 := [(2, .int (v2 + 1)), (1, .int (t1 + t0)), (0, .ref (xa X 85)), (3, .int v3), (4, .int v4)]) E dX10_year_199 2 rfl rfl (by decide) rfl ?_
      refine j_goto (pc := 202) (tgt := 45) E dX10_year_202 (by decide) ?_
      refine JF.sub [2, 1, 0] rfl ?_
      exact K45 (t1 + t0) (v2 + 1) m11
def fX10_year_J108 (N : Nat) (v1 : Int32) (v2 : Int32) (v3 : Int32) (t0 : Int32) (k45 : Int32 → Int32 → XS → Option XO) (σ : XS) : Option XO := if t0 = 0 then gd (xin (46 + (3 * v2)) 98) (fX10_year_J143 N v2 v3 t0 (3 * (σ 86 (46 + (3 * v2)).toNatClampNeg)) v1 k45 σ) else gd (xin (46 + (3 * v2)) 98) (fX10_year_J143 N v2 v3 t0 (σ 86 (46 + (3 * v2)).toNatClampNeg) v1 k45 σ)
set_option maxRecDepth 100000 in
set_option maxHeartbeats 4000000 in
theorem lX10_year_J108 (N : Nat) (v1 : Int32) (v2 : Int32) (v3 : Int32) (t0 : Int32) (k45 : Int32 → Int32 → XS → Option XO) {X : XC} {o : XO} (E : XE X cX10_year RX10 5 6 146) (R : XI X o cX10_year) (K45 : ∀ (v1 : Int32) (v2 : Int32) (σ : XS), JF X o 5 45 [(0, .ref (xa X 85)), (1, .int v1), (2, .int v2)] [] σ (k45 v1 v2 σ)) (σ : XS) : JF X o 5 108 [(0, .ref (xa X 85)), (1, .int v1), (2, .int v2), (3, .int v3)] [.int t0] σ (fX10_year_J108 N v1 v2 v3 t0 k45 σ) := by
  show JF X o 5 108 [(0, .ref (xa X 85)), (1, .int v1), (2, .int v2), (3, .int v3)] [.int t0] σ (if t0 = 0 then gd (xin (46 + (3 * v2)) 98) (fX10_year_J143 N v2 v3 t0 (3 * (σ 86 (46 + (3 * v2)).toNatClampNeg)) v1 k45 σ) else gd (xin (46 + (3 * v2)) 98) (fX10_year_J143 N v2 v3 t0 (σ 86 (46 + (3 * v2)).toNatClampNeg) v1 k45 σ))
  refine j_istore (pc := 108) (lv1 := [(4, .int t0), (0, .ref (xa X 85)), (1, .int v1), (2, .int v2), (3, .int v3)]) E dX10_year_108 (by decide) rfl ?_
  refine j_iload_n (pc := 110) rfl 2 rfl E dX10_year_110 ?_
  refine j_iload (pc := 111) 0 rfl E dX10_year_111 ?_
  refine j_if_eq (pc := 113) (tgt := 130) E dX10_year_113 (by decide) ?_ ?_
  · refine j_iconst (pc := 130) (v := 3) (by decide) E dX10_year_130 ?_
    refine j_aload_n (pc := 131) rfl 1 rfl E dX10_year_131 ?_
    refine j_get (pc := 132) E xuX10 rfl s_85 (k := 0) (by decide) q_1082 rfl (xflds_ref rfl) dX10_year_132 ?_
    refine j_bipush (pc := 135) (v := 46) (by decide) E dX10_year_135 ?_
    refine j_iconst (pc := 137) (v := 3) (by decide) E dX10_year_137 ?_
    refine j_iload_n (pc := 138) rfl 3 rfl E dX10_year_138 ?_
    refine j_imul (pc := 139) E dX10_year_139 ?_
    refine j_iadd (pc := 140) E dX10_year_140 ?_
    refine j_iald (pc := 141) E s_86 dX10_year_141 ?_
    refine j_imul (pc := 142) E dX10_year_142 ?_
    refine JF.sub [1, 3, 4, 0] rfl ?_
    exact lX10_year_J143 N v2 v3 t0 (3 * (σ 86 (46 + (3 * v2)).toNatClampNeg)) v1 k45 E R K45 σ
  · refine j_aload_n (pc := 116) rfl 1 rfl E dX10_year_116 ?_
    refine j_get (pc := 117) E xuX10 rfl s_85 (k := 0) (by decide) q_1082 rfl (xflds_ref rfl) dX10_year_117 ?_
    refine j_bipush (pc := 120) (v := 46) (by decide) E dX10_year_120 ?_
    refine j_iconst (pc := 122) (v := 3) (by decide) E dX10_year_122 ?_
    refine j_iload_n (pc := 123) rfl 3 rfl E dX10_year_123 ?_
    refine j_imul (pc := 124) E dX10_year_124 ?_
    refine j_iadd (pc := 125) E dX10_year_125 ?_
    refine j_iald (pc := 126) E s_86 dX10_year_126 ?_
    refine j_goto (pc := 127) (tgt := 143) E dX10_year_127 (by decide) ?_
    refine JF.sub [1, 3, 4, 0] rfl ?_
    exact lX10_year_J143 N v2 v3 t0 (σ 86 (46 + (3 * v2)).toNatClampNeg) v1 k45 E R K45 σ
def fX10_year_J107 (N : Nat) (v1 : Int32) (v2 : Int32) (v3 : Int32) (k45 : Int32 → Int32 → XS → Option XO) (σ : XS) : Option XO := fX10_year_J108 N v1 v2 v3 0 k45 σ
set_option maxRecDepth 100000 in
set_option maxHeartbeats 4000000 in
theorem lX10_year_J107 (N : Nat) (v1 : Int32) (v2 : Int32) (v3 : Int32) (k45 : Int32 → Int32 → XS → Option XO) {X : XC} {o : XO} (E : XE X cX10_year RX10 5 6 146) (R : XI X o cX10_year) (K45 : ∀ (v1 : Int32) (v2 : Int32) (σ : XS), JF X o 5 45 [(0, .ref (xa X 85)), (1, .int v1), (2, .int v2)] [] σ (k45 v1 v2 σ)) (σ : XS) : JF X o 5 107 [(0, .ref (xa X 85)), (1, .int v1), (2, .int v2), (3, .int v3)] [] σ (fX10_year_J107 N v1 v2 v3 k45 σ) := by
  show JF X o 5 107 [(0, .ref (xa X 85)), (1, .int v1), (2, .int v2), (3, .int v3)] [] σ (fX10_year_J108 N v1 v2 v3 0 k45 σ)
  refine j_iconst (pc := 107) (v := 0) (by decide) E dX10_year_107 ?_
  refine JF.sub [0, 1, 2, 3] rfl ?_
  exact lX10_year_J108 N v1 v2 v3 0 k45 E R K45 σ
def fX10_year_L45 (N : Nat) (k205 : Int32 → XS → Option XO) : Nat → Int32 → Int32 → XS → Option XO
  | 0, _, _, _ => none
  | n + 1, v1, v2, σ => gd (xin 1 98) (if (σ 86 (1 : Int32).toNatClampNeg) ≤ v2 then k205 v1 σ else gd (xin ((46 + (3 * v2)) + 2) 98) (if (σ 86 ((46 + (3 * v2)) + 2).toNatClampNeg) = 0 then xB (fX10_shortestOf N σ v2 0) (fun y5 m6 => if y5 = (-1) then fX10_year_J107 N v1 v2 y5 (fX10_year_L45 N k205 n) m6 else gd (xin (y5 - 1) 6) (xB (fX10_isWorn N m6 (m6 95 (y5 - 1).toNatClampNeg) 96 0) (fun y17 m18 => if y17 = 0 then fX10_year_J108 N v1 v2 y5 1 (fX10_year_L45 N k205 n) m18 else fX10_year_J107 N v1 v2 y5 (fX10_year_L45 N k205 n) m18))) else fX10_year_L45 N k205 n v1 (v2 + 1) σ))
set_option maxRecDepth 100000 in
set_option maxHeartbeats 4000000 in
theorem lX10_year_L45 (N : Nat) (k205 : Int32 → XS → Option XO) {X : XC} {o : XO} (E : XE X cX10_year RX10 5 6 146) (R : XI X o cX10_year) (K205 : ∀ (v1 : Int32) (σ : XS), JF X o 5 205 [(1, .int v1)] [] σ (k205 v1 σ)) : ∀ (n : Nat) (v1 : Int32) (v2 : Int32) (σ : XS), JF X o 5 45 [(0, .ref (xa X 85)), (1, .int v1), (2, .int v2)] [] σ (fX10_year_L45 N k205 n v1 v2 σ) := by
  intro n
  induction n with
  | zero => intro v1 v2 σ; exact JF.none
  | succ n ih =>
    intro v1 v2 σ
    show JF X o 5 45 [(0, .ref (xa X 85)), (1, .int v1), (2, .int v2)] [] σ (gd (xin 1 98) (if (σ 86 (1 : Int32).toNatClampNeg) ≤ v2 then k205 v1 σ else gd (xin ((46 + (3 * v2)) + 2) 98) (if (σ 86 ((46 + (3 * v2)) + 2).toNatClampNeg) = 0 then xB (fX10_shortestOf N σ v2 0) (fun y5 m6 => if y5 = (-1) then fX10_year_J107 N v1 v2 y5 (fX10_year_L45 N k205 n) m6 else gd (xin (y5 - 1) 6) (xB (fX10_isWorn N m6 (m6 95 (y5 - 1).toNatClampNeg) 96 0) (fun y17 m18 => if y17 = 0 then fX10_year_J108 N v1 v2 y5 1 (fX10_year_L45 N k205 n) m18 else fX10_year_J107 N v1 v2 y5 (fX10_year_L45 N k205 n) m18))) else fX10_year_L45 N k205 n v1 (v2 + 1) σ)))
    refine j_iload_n (pc := 45) rfl 2 rfl E dX10_year_45 ?_
    refine j_aload_n (pc := 46) rfl 0 rfl E dX10_year_46 ?_
    refine j_get (pc := 47) E xuX10 rfl s_85 (k := 0) (by decide) q_1082 rfl (xflds_ref rfl) dX10_year_47 ?_
    refine j_iconst (pc := 50) (v := 1) (by decide) E dX10_year_50 ?_
    refine j_iald (pc := 51) E s_86 dX10_year_51 ?_
    refine j_icmp_ge (pc := 52) (tgt := 205) E dX10_year_52 (by decide) ?_ ?_
    · refine JF.sub [1] rfl ?_
      exact K205 v1 σ
    · refine j_aload_n (pc := 55) rfl 0 rfl E dX10_year_55 ?_
      refine j_get (pc := 56) E xuX10 rfl s_85 (k := 0) (by decide) q_1082 rfl (xflds_ref rfl) dX10_year_56 ?_
      refine j_bipush (pc := 59) (v := 46) (by decide) E dX10_year_59 ?_
      refine j_iconst (pc := 61) (v := 3) (by decide) E dX10_year_61 ?_
      refine j_iload_n (pc := 62) rfl 2 rfl E dX10_year_62 ?_
      refine j_imul (pc := 63) E dX10_year_63 ?_
      refine j_iadd (pc := 64) E dX10_year_64 ?_
      refine j_iconst (pc := 65) (v := 2) (by decide) E dX10_year_65 ?_
      refine j_iadd (pc := 66) E dX10_year_66 ?_
      refine j_iald (pc := 67) E s_86 dX10_year_67 ?_
      refine j_if_ne (pc := 68) (tgt := 199) E dX10_year_68 (by decide) ?_ ?_
      · refine j_aload_n (pc := 71) rfl 0 rfl E dX10_year_71 ?_
        refine j_iload_n (pc := 72) rfl 2 rfl E dX10_year_72 ?_
        refine j_iconst (pc := 73) (v := 0) (by decide) E dX10_year_73 ?_
        refine JF.xb (fun y5 m6 h7 => ?_)
        refine j_callVi (pc := 74) (st := []) E (kX10_shortestOf h7) mv_X10_shortestOf rfl s_85 q_1369 [.int v2, .int 0] rfl rfl rfl (by decide) (Nat.le_of_ble_eq_true rfl) dX10_year_74 ?_
        refine j_istore_n (pc := 77) (lv1 := [(3, .int y5), (0, .ref (xa X 85)), (1, .int v1), (2, .int v2)]) E dX10_year_77 rfl (by decide) rfl ?_
        refine j_iload_n (pc := 78) rfl 0 rfl E dX10_year_78 ?_
        refine j_iconst (pc := 79) (v := (-1)) (by decide) E dX10_year_79 ?_
        refine j_icmp_eq (pc := 80) (tgt := 107) E dX10_year_80 (by decide) ?_ ?_
        · refine JF.sub [1, 2, 3, 0] rfl ?_
          exact lX10_year_J107 N v1 v2 y5 (fX10_year_L45 N k205 n) E R ih m6
        · refine j_aload_n (pc := 83) rfl 1 rfl E dX10_year_83 ?_
          refine j_aload_n (pc := 84) rfl 1 rfl E dX10_year_84 ?_
          refine j_get (pc := 85) E xuX10 rfl s_85 (k := 22) (by decide) q_1104 rfl (xflds_ref rfl) dX10_year_85 ?_
          refine j_iload_n (pc := 88) rfl 0 rfl E dX10_year_88 ?_
          refine j_iconst (pc := 89) (v := 1) (by decide) E dX10_year_89 ?_
          refine j_isub (pc := 90) E dX10_year_90 ?_
          refine j_iald (pc := 91) E s_95 dX10_year_91 ?_
          refine j_aload_n (pc := 92) rfl 1 rfl E dX10_year_92 ?_
          refine j_get (pc := 93) E xuX10 rfl s_85 (k := 24) (by decide) q_1106 rfl (xflds_ref rfl) dX10_year_93 ?_
          refine j_iconst (pc := 96) (v := 0) (by decide) E dX10_year_96 ?_
          refine JF.xb (fun y17 m18 h19 => ?_)
          refine j_callVi (pc := 97) (st := []) E (kX10_isWorn xr_96 h19) mv_X10_isWorn rfl s_85 q_1337 [.int (m6 95 (y5 - 1).toNatClampNeg), .ref (xa X 96), .int 0] rfl rfl rfl (by decide) (Nat.le_of_ble_eq_true rfl) dX10_year_97 ?_
          refine j_if_ne (pc := 100) (tgt := 107) E dX10_year_100 (by decide) ?_ ?_
          · refine j_iconst (pc := 103) (v := 1) (by decide) E dX10_year_103 ?_
            refine j_goto (pc := 104) (tgt := 108) E dX10_year_104 (by decide) ?_
            refine JF.sub [1, 2, 3, 0] rfl ?_
            exact lX10_year_J108 N v1 v2 y5 1 (fX10_year_L45 N k205 n) E R ih m18
          · refine JF.sub [1, 2, 3, 0] rfl ?_
            exact lX10_year_J107 N v1 v2 y5 (fX10_year_L45 N k205 n) E R ih m18
      · refine j_iinc (pc := 199) (v := (v2 + 1)) (lv1 := [(2, .int (v2 + 1)), (0, .ref (xa X 85)), (1, .int v1)]) E dX10_year_199 2 rfl rfl (by decide) rfl ?_
        refine j_goto (pc := 202) (tgt := 45) E dX10_year_202 (by decide) ?_
        refine JF.sub [1, 2, 0] rfl ?_
        exact ih v1 (v2 + 1) σ
def fX10_year (N : Nat) (σ : XS) : Option XO := gd (xin 2 98) (if (σ 86 (2 : Int32).toNatClampNeg) = 0 then some ((-4), σ) else fX10_year_L14 N (fun m4 => fX10_year_L45 N (fun x20 m21 => some (x20, m21)) N 0 0 m4) N 0 σ)
set_option maxRecDepth 100000 in
set_option maxHeartbeats 4000000 in
theorem kX10_year {N : Nat} {σ : XS} {o : XO} (h : fX10_year N σ = some o) : CtI yX10_year cX10_year 5 (some .int) 6 146 (fun Am ad => [.ref (Am 85)]) σ o := by
  refine ct_int (by decide) (fun _ _ => Nat.le_of_ble_eq_true rfl) (fun X E R => ?_)
  rw [← h]
  show JF X o 5 0 [(0, .ref (xa X 85))] [] σ (gd (xin 2 98) (if (σ 86 (2 : Int32).toNatClampNeg) = 0 then some ((-4), σ) else fX10_year_L14 N (fun m4 => fX10_year_L45 N (fun x20 m21 => some (x20, m21)) N 0 0 m4) N 0 σ))
  refine j_aload_n (pc := 0) rfl 0 rfl E dX10_year_0 ?_
  refine j_get (pc := 1) E xuX10 rfl s_85 (k := 0) (by decide) q_1082 rfl (xflds_ref rfl) dX10_year_1 ?_
  refine j_iconst (pc := 4) (v := 2) (by decide) E dX10_year_4 ?_
  refine j_iald (pc := 5) E s_86 dX10_year_5 ?_
  refine j_if_ne (pc := 6) (tgt := 12) E dX10_year_6 (by decide) ?_ ?_
  · refine j_bipush (pc := 9) (v := (-4)) (by decide) E dX10_year_9 ?_
    exact j_iret (pc := 11) E R dX10_year_11
  · refine j_iconst (pc := 12) (v := 0) (by decide) E dX10_year_12 ?_
    refine j_istore_n (pc := 13) (lv1 := [(1, .int 0), (0, .ref (xa X 85))]) E dX10_year_13 rfl (by decide) rfl ?_
    refine JF.sub [1, 0] rfl ?_
    refine lX10_year_L14 N _ E R (fun m4 => ?_) N 0 σ
    · refine j_iconst (pc := 41) (v := 0) (by decide) E dX10_year_41 ?_
      refine j_istore_n (pc := 42) (lv1 := [(1, .int 0), (0, .ref (xa X 85))]) E dX10_year_42 rfl (by decide) rfl ?_
      refine j_iconst (pc := 43) (v := 0) (by decide) E dX10_year_43 ?_
      refine j_istore_n (pc := 44) (lv1 := [(2, .int 0), (1, .int 0), (0, .ref (xa X 85))]) E dX10_year_44 rfl (by decide) rfl ?_
      refine JF.sub [2, 1, 0] rfl ?_
      refine lX10_year_L45 N _ E R (fun x20 m21 => ?_) N 0 0 m4
      · refine j_iload_n (pc := 205) rfl 0 rfl E dX10_year_205 ?_
        exact j_iret (pc := 206) E R dX10_year_206
def fX10_secret (N : Nat) (σ : XS) (p1 : Int32) : Option XO := xB (fX10_in N σ p1.toInt64 1 3) (fun y1 m2 => if y1 = 0 then some ((-3), m2) else xLet (xUp m2 85 9 p1) (fun m4 => xLet (xUp m4 85 8 0) (fun m6 => some ((m2 85 8), m6))))
set_option maxRecDepth 100000 in
set_option maxHeartbeats 4000000 in
theorem kX10_secret {N : Nat} {σ : XS} {p1 : Int32} {o : XO} (h : fX10_secret N σ p1 = some o) : CtI yX10_secret cX10_secret 3 (some .int) 1 25 (fun Am ad => [.ref (Am 85), .int p1]) σ o := by
  refine ct_int (by decide) (fun _ _ => Nat.le_of_ble_eq_true rfl) (fun X E R => ?_)
  rw [← h]
  show JF X o 3 0 [(0, .ref (xa X 85)), (1, .int p1)] [] σ (xB (fX10_in N σ p1.toInt64 1 3) (fun y1 m2 => if y1 = 0 then some ((-3), m2) else xLet (xUp m2 85 9 p1) (fun m4 => xLet (xUp m4 85 8 0) (fun m6 => some ((m2 85 8), m6)))))
  refine j_iload_n (pc := 0) rfl 1 rfl E dX10_secret_0 ?_
  refine j_i2l (pc := 1) E dX10_secret_1 ?_
  refine j_lconst (pc := 2) (v := 1) (by decide) E dX10_secret_2 ?_
  refine j_ldc2 (pc := 3) (v := 3) E q_1237 dX10_secret_3 ?_
  refine JF.xb (fun y1 m2 h3 => ?_)
  refine j_callSi (pc := 6) (st := []) E (kX10_in h3) mv_X10_in q_1079 [.long p1.toInt64, .long 1, .long 3] rfl rfl rfl (by decide) (Nat.le_of_ble_eq_true rfl) dX10_secret_6 ?_
  refine j_if_ne (pc := 9) (tgt := 15) E dX10_secret_9 (by decide) ?_ ?_
  · refine j_bipush (pc := 12) (v := (-3)) (by decide) E dX10_secret_12 ?_
    exact j_iret (pc := 14) E R dX10_secret_14
  · refine j_aload_n (pc := 15) rfl 0 rfl E dX10_secret_15 ?_
    refine j_get (pc := 16) E xuX10 rfl s_85 (k := 8) (by decide) q_1090 rfl (xflds_int rfl) dX10_secret_16 ?_
    refine j_istore_n (pc := 19) (lv1 := [(2, .int (m2 85 8)), (0, .ref (xa X 85)), (1, .int p1)]) E dX10_secret_19 rfl (by decide) rfl ?_
    refine j_aload_n (pc := 20) rfl 1 rfl E dX10_secret_20 ?_
    refine j_iload_n (pc := 21) rfl 2 rfl E dX10_secret_21 ?_
    refine JF.xlet (fun m4 e5 => ?_)
    refine j_put (pc := 22) E xuX10 tyX10 tyX10_ok nmX10 rfl s_85 rfl (k := 9) (by decide) q_1091 rfl rfl (ty := .int) (by decide +kernel) rfl rfl dX10_secret_22 e5 ?_
    refine j_aload_n (pc := 25) rfl 1 rfl E dX10_secret_25 ?_
    refine j_iconst (pc := 26) (v := 0) (by decide) E dX10_secret_26 ?_
    refine JF.xlet (fun m6 e7 => ?_)
    refine j_put (pc := 27) E xuX10 tyX10 tyX10_ok nmX10 rfl s_85 rfl (k := 8) (by decide) q_1090 rfl rfl (ty := .int) (by decide +kernel) rfl rfl dX10_secret_27 e7 ?_
    refine j_iload_n (pc := 30) rfl 0 rfl E dX10_secret_30 ?_
    exact j_iret (pc := 31) E R dX10_secret_31
def fX10_counted (N : Nat) (σ : XS) (p1 : Int32) (p2 : Int32) : Option XO := xB (fX10_isClerk N σ p1) (fun y1 m2 => if y1 = 0 then some ((-2), m2) else xB (fX10_in N m2 p2.toInt64 0 24) (fun y4 m5 => if y4 = 0 then some ((-3), m5) else if (m5 85 9) = 0 then some ((-4), m5) else if (m5 85 8) = 6 then some ((-5), m5) else xLet (xUp m5 91 (2 * (m5 85 8)).toNatClampNeg p1) (fun m7 => gd (xin (2 * (m5 85 8)) 12) (xLet (xUp m7 91 ((2 * (m7 85 8)) + 1).toNatClampNeg p2) (fun m10 => gd (xin ((2 * (m7 85 8)) + 1) 12) (xLet (xUp m10 85 8 ((m10 85 8) + 1)) (fun m13 => some ((m13 85 8), m13))))))))
set_option maxRecDepth 100000 in
set_option maxHeartbeats 4000000 in
theorem kX10_counted {N : Nat} {σ : XS} {p1 : Int32} {p2 : Int32} {o : XO} (h : fX10_counted N σ p1 p2 = some o) : CtI yX10_counted cX10_counted 3 (some .int) 2 46 (fun Am ad => [.ref (Am 85), .int p1, .int p2]) σ o := by
  refine ct_int (by decide) (fun _ _ => Nat.le_of_ble_eq_true rfl) (fun X E R => ?_)
  rw [← h]
  show JF X o 3 0 [(0, .ref (xa X 85)), (1, .int p1), (2, .int p2)] [] σ (xB (fX10_isClerk N σ p1) (fun y1 m2 => if y1 = 0 then some ((-2), m2) else xB (fX10_in N m2 p2.toInt64 0 24) (fun y4 m5 => if y4 = 0 then some ((-3), m5) else if (m5 85 9) = 0 then some ((-4), m5) else if (m5 85 8) = 6 then some ((-5), m5) else xLet (xUp m5 91 (2 * (m5 85 8)).toNatClampNeg p1) (fun m7 => gd (xin (2 * (m5 85 8)) 12) (xLet (xUp m7 91 ((2 * (m7 85 8)) + 1).toNatClampNeg p2) (fun m10 => gd (xin ((2 * (m7 85 8)) + 1) 12) (xLet (xUp m10 85 8 ((m10 85 8) + 1)) (fun m13 => some ((m13 85 8), m13)))))))))
  refine j_aload_n (pc := 0) rfl 0 rfl E dX10_counted_0 ?_
  refine j_iload_n (pc := 1) rfl 1 rfl E dX10_counted_1 ?_
  refine JF.xb (fun y1 m2 h3 => ?_)
  refine j_callVi (pc := 2) (st := []) E (kX10_isClerk h3) mv_X10_isClerk rfl s_85 q_1251 [.int p1] rfl rfl rfl (by decide) (Nat.le_of_ble_eq_true rfl) dX10_counted_2 ?_
  refine j_if_ne (pc := 5) (tgt := 11) E dX10_counted_5 (by decide) ?_ ?_
  · refine j_bipush (pc := 8) (v := (-2)) (by decide) E dX10_counted_8 ?_
    exact j_iret (pc := 10) E R dX10_counted_10
  · refine j_iload_n (pc := 11) rfl 2 rfl E dX10_counted_11 ?_
    refine j_i2l (pc := 12) E dX10_counted_12 ?_
    refine j_lconst (pc := 13) (v := 0) (by decide) E dX10_counted_13 ?_
    refine j_ldc2 (pc := 14) (v := 24) E q_1437 dX10_counted_14 ?_
    refine JF.xb (fun y4 m5 h6 => ?_)
    refine j_callSi (pc := 17) (st := []) E (kX10_in h6) mv_X10_in q_1079 [.long p2.toInt64, .long 0, .long 24] rfl rfl rfl (by decide) (Nat.le_of_ble_eq_true rfl) dX10_counted_17 ?_
    refine j_if_ne (pc := 20) (tgt := 26) E dX10_counted_20 (by decide) ?_ ?_
    · refine j_bipush (pc := 23) (v := (-3)) (by decide) E dX10_counted_23 ?_
      exact j_iret (pc := 25) E R dX10_counted_25
    · refine j_aload_n (pc := 26) rfl 0 rfl E dX10_counted_26 ?_
      refine j_get (pc := 27) E xuX10 rfl s_85 (k := 9) (by decide) q_1091 rfl (xflds_int rfl) dX10_counted_27 ?_
      refine j_if_ne (pc := 30) (tgt := 36) E dX10_counted_30 (by decide) ?_ ?_
      · refine j_bipush (pc := 33) (v := (-4)) (by decide) E dX10_counted_33 ?_
        exact j_iret (pc := 35) E R dX10_counted_35
      · refine j_aload_n (pc := 36) rfl 0 rfl E dX10_counted_36 ?_
        refine j_get (pc := 37) E xuX10 rfl s_85 (k := 8) (by decide) q_1090 rfl (xflds_int rfl) dX10_counted_37 ?_
        refine j_bipush (pc := 40) (v := 6) (by decide) E dX10_counted_40 ?_
        refine j_icmp_ne (pc := 42) (tgt := 48) E dX10_counted_42 (by decide) ?_ ?_
        · refine j_bipush (pc := 45) (v := (-5)) (by decide) E dX10_counted_45 ?_
          exact j_iret (pc := 47) E R dX10_counted_47
        · refine j_aload_n (pc := 48) rfl 0 rfl E dX10_counted_48 ?_
          refine j_get (pc := 49) E xuX10 rfl s_85 (k := 7) (by decide) q_1089 rfl (xflds_ref rfl) dX10_counted_49 ?_
          refine j_iconst (pc := 52) (v := 2) (by decide) E dX10_counted_52 ?_
          refine j_aload_n (pc := 53) rfl 0 rfl E dX10_counted_53 ?_
          refine j_get (pc := 54) E xuX10 rfl s_85 (k := 8) (by decide) q_1090 rfl (xflds_int rfl) dX10_counted_54 ?_
          refine j_imul (pc := 57) E dX10_counted_57 ?_
          refine j_iload_n (pc := 58) rfl 1 rfl E dX10_counted_58 ?_
          refine JF.xlet (fun m7 e8 => ?_)
          refine j_iast (pc := 59) E s_91 dX10_counted_59 e8 ?_
          refine j_aload_n (pc := 60) rfl 0 rfl E dX10_counted_60 ?_
          refine j_get (pc := 61) E xuX10 rfl s_85 (k := 7) (by decide) q_1089 rfl (xflds_ref rfl) dX10_counted_61 ?_
          refine j_iconst (pc := 64) (v := 2) (by decide) E dX10_counted_64 ?_
          refine j_aload_n (pc := 65) rfl 0 rfl E dX10_counted_65 ?_
          refine j_get (pc := 66) E xuX10 rfl s_85 (k := 8) (by decide) q_1090 rfl (xflds_int rfl) dX10_counted_66 ?_
          refine j_imul (pc := 69) E dX10_counted_69 ?_
          refine j_iconst (pc := 70) (v := 1) (by decide) E dX10_counted_70 ?_
          refine j_iadd (pc := 71) E dX10_counted_71 ?_
          refine j_iload_n (pc := 72) rfl 2 rfl E dX10_counted_72 ?_
          refine JF.xlet (fun m10 e11 => ?_)
          refine j_iast (pc := 73) E s_91 dX10_counted_73 e11 ?_
          refine j_aload_n (pc := 74) rfl 0 rfl E dX10_counted_74 ?_
          refine j_dup (pc := 75) rfl E dX10_counted_75 ?_
          refine j_get (pc := 76) E xuX10 rfl s_85 (k := 8) (by decide) q_1090 rfl (xflds_int rfl) dX10_counted_76 ?_
          refine j_iconst (pc := 79) (v := 1) (by decide) E dX10_counted_79 ?_
          refine j_iadd (pc := 80) E dX10_counted_80 ?_
          refine JF.xlet (fun m13 e14 => ?_)
          refine j_put (pc := 81) E xuX10 tyX10 tyX10_ok nmX10 rfl s_85 rfl (k := 8) (by decide) q_1090 rfl rfl (ty := .int) (by decide +kernel) rfl rfl dX10_counted_81 e14 ?_
          refine j_aload_n (pc := 84) rfl 0 rfl E dX10_counted_84 ?_
          refine j_get (pc := 85) E xuX10 rfl s_85 (k := 8) (by decide) q_1090 rfl (xflds_int rfl) dX10_counted_85 ?_
          exact j_iret (pc := 88) E R dX10_counted_88
def fX10_goesThrough_L40 (N : Nat) (v1 : Int32) (v2 : Int32) (v3 : Int32) (k107 : Int32 → XS → Option XO) : Nat → Int32 → Int32 → XS → Option XO
  | 0, _, _, _ => none
  | n + 1, v4, v5, σ => if (σ 85 8) ≤ v5 then k107 v4 σ else if v4 = 0 then fX10_goesThrough_L40 N v1 v2 v3 k107 n 0 (v5 + 1) σ else gd (xin (2 * v5) 12) (gd (xin (64 + (σ 91 (2 * v5).toNatClampNeg)) 98) (xB (fX10_countedBy N σ (σ 86 (64 + (σ 91 (2 * v5).toNatClampNeg)).toNatClampNeg) 94 v1) (fun y11 m12 => gd (xin ((2 * v5) + 1) 12) (if y11 = (m12 91 ((2 * v5) + 1).toNatClampNeg) then fX10_goesThrough_L40 N v1 v2 v3 k107 n 1 (v5 + 1) m12 else fX10_goesThrough_L40 N v1 v2 v3 k107 n 0 (v5 + 1) m12))))
set_option maxRecDepth 100000 in
set_option maxHeartbeats 4000000 in
theorem lX10_goesThrough_L40 (N : Nat) (v1 : Int32) (v2 : Int32) (v3 : Int32) (k107 : Int32 → XS → Option XO) {X : XC} {o : XO} (E : XE X cX10_goesThrough RX10 6 4 96) (R : XV X o cX10_goesThrough) (K107 : ∀ (v4 : Int32) (σ : XS), JF X o 6 107 [(0, .ref (xa X 85)), (1, .int v1), (2, .int v2), (3, .int v3), (4, .int v4)] [] σ (k107 v4 σ)) : ∀ (n : Nat) (v4 : Int32) (v5 : Int32) (σ : XS), JF X o 6 40 [(0, .ref (xa X 85)), (1, .int v1), (2, .int v2), (3, .int v3), (4, .int v4), (5, .int v5)] [] σ (fX10_goesThrough_L40 N v1 v2 v3 k107 n v4 v5 σ) := by
  intro n
  induction n with
  | zero => intro v4 v5 σ; exact JF.none
  | succ n ih =>
    intro v4 v5 σ
    show JF X o 6 40 [(0, .ref (xa X 85)), (1, .int v1), (2, .int v2), (3, .int v3), (4, .int v4), (5, .int v5)] [] σ (if (σ 85 8) ≤ v5 then k107 v4 σ else if v4 = 0 then fX10_goesThrough_L40 N v1 v2 v3 k107 n 0 (v5 + 1) σ else gd (xin (2 * v5) 12) (gd (xin (64 + (σ 91 (2 * v5).toNatClampNeg)) 98) (xB (fX10_countedBy N σ (σ 86 (64 + (σ 91 (2 * v5).toNatClampNeg)).toNatClampNeg) 94 v1) (fun y11 m12 => gd (xin ((2 * v5) + 1) 12) (if y11 = (m12 91 ((2 * v5) + 1).toNatClampNeg) then fX10_goesThrough_L40 N v1 v2 v3 k107 n 1 (v5 + 1) m12 else fX10_goesThrough_L40 N v1 v2 v3 k107 n 0 (v5 + 1) m12)))))
    refine j_iload (pc := 40) 5 rfl E dX10_goesThrough_40 ?_
    refine j_aload_n (pc := 42) rfl 0 rfl E dX10_goesThrough_42 ?_
    refine j_get (pc := 43) E xuX10 rfl s_85 (k := 8) (by decide) q_1090 rfl (xflds_int rfl) dX10_goesThrough_43 ?_
    refine j_icmp_ge (pc := 46) (tgt := 107) E dX10_goesThrough_46 (by decide) ?_ ?_
    · refine JF.sub [0, 1, 2, 3, 4] rfl ?_
      exact K107 v4 σ
    · refine j_iload (pc := 49) 4 rfl E dX10_goesThrough_49 ?_
      refine j_if_eq (pc := 51) (tgt := 98) E dX10_goesThrough_51 (by decide) ?_ ?_
      · refine j_iconst (pc := 98) (v := 0) (by decide) E dX10_goesThrough_98 ?_
        refine j_istore (pc := 99) (lv1 := [(4, .int 0), (0, .ref (xa X 85)), (1, .int v1), (2, .int v2), (3, .int v3), (5, .int v5)]) E dX10_goesThrough_99 (by decide) rfl ?_
        refine j_iinc (pc := 101) (v := (v5 + 1)) (lv1 := [(5, .int (v5 + 1)), (4, .int 0), (0, .ref (xa X 85)), (1, .int v1), (2, .int v2), (3, .int v3)]) E dX10_goesThrough_101 5 rfl rfl (by decide) rfl ?_
        refine j_goto (pc := 104) (tgt := 40) E dX10_goesThrough_104 (by decide) ?_
        refine JF.sub [2, 3, 4, 5, 1, 0] rfl ?_
        exact ih 0 (v5 + 1) σ
      · refine j_aload_n (pc := 54) rfl 0 rfl E dX10_goesThrough_54 ?_
        refine j_aload_n (pc := 55) rfl 0 rfl E dX10_goesThrough_55 ?_
        refine j_get (pc := 56) E xuX10 rfl s_85 (k := 0) (by decide) q_1082 rfl (xflds_ref rfl) dX10_goesThrough_56 ?_
        refine j_bipush (pc := 59) (v := 64) (by decide) E dX10_goesThrough_59 ?_
        refine j_aload_n (pc := 61) rfl 0 rfl E dX10_goesThrough_61 ?_
        refine j_get (pc := 62) E xuX10 rfl s_85 (k := 7) (by decide) q_1089 rfl (xflds_ref rfl) dX10_goesThrough_62 ?_
        refine j_iconst (pc := 65) (v := 2) (by decide) E dX10_goesThrough_65 ?_
        refine j_iload (pc := 66) 5 rfl E dX10_goesThrough_66 ?_
        refine j_imul (pc := 68) E dX10_goesThrough_68 ?_
        refine j_iald (pc := 69) E s_91 dX10_goesThrough_69 ?_
        refine j_iadd (pc := 70) E dX10_goesThrough_70 ?_
        refine j_iald (pc := 71) E s_86 dX10_goesThrough_71 ?_
        refine j_aload_n (pc := 72) rfl 0 rfl E dX10_goesThrough_72 ?_
        refine j_get (pc := 73) E xuX10 rfl s_85 (k := 21) (by decide) q_1103 rfl (xflds_ref rfl) dX10_goesThrough_73 ?_
        refine j_iload_n (pc := 76) rfl 1 rfl E dX10_goesThrough_76 ?_
        refine JF.xb (fun y11 m12 h13 => ?_)
        refine j_callVi (pc := 77) (st := []) E (kX10_countedBy xr_94 h13) mv_X10_countedBy rfl s_85 q_1277 [.int (σ 86 (64 + (σ 91 (2 * v5).toNatClampNeg)).toNatClampNeg), .ref (xa X 94), .int v1] rfl rfl rfl (by decide) (Nat.le_of_ble_eq_true rfl) dX10_goesThrough_77 ?_
        refine j_aload_n (pc := 80) rfl 0 rfl E dX10_goesThrough_80 ?_
        refine j_get (pc := 81) E xuX10 rfl s_85 (k := 7) (by decide) q_1089 rfl (xflds_ref rfl) dX10_goesThrough_81 ?_
        refine j_iconst (pc := 84) (v := 2) (by decide) E dX10_goesThrough_84 ?_
        refine j_iload (pc := 85) 5 rfl E dX10_goesThrough_85 ?_
        refine j_imul (pc := 87) E dX10_goesThrough_87 ?_
        refine j_iconst (pc := 88) (v := 1) (by decide) E dX10_goesThrough_88 ?_
        refine j_iadd (pc := 89) E dX10_goesThrough_89 ?_
        refine j_iald (pc := 90) E s_91 dX10_goesThrough_90 ?_
        refine j_icmp_ne (pc := 91) (tgt := 98) E dX10_goesThrough_91 (by decide) ?_ ?_
        · refine j_iconst (pc := 94) (v := 1) (by decide) E dX10_goesThrough_94 ?_
          refine j_goto (pc := 95) (tgt := 99) E dX10_goesThrough_95 (by decide) ?_
          refine j_istore (pc := 99) (lv1 := [(4, .int 1), (0, .ref (xa X 85)), (1, .int v1), (2, .int v2), (3, .int v3), (5, .int v5)]) E dX10_goesThrough_99 (by decide) rfl ?_
          refine j_iinc (pc := 101) (v := (v5 + 1)) (lv1 := [(5, .int (v5 + 1)), (4, .int 1), (0, .ref (xa X 85)), (1, .int v1), (2, .int v2), (3, .int v3)]) E dX10_goesThrough_101 5 rfl rfl (by decide) rfl ?_
          refine j_goto (pc := 104) (tgt := 40) E dX10_goesThrough_104 (by decide) ?_
          refine JF.sub [2, 3, 4, 5, 1, 0] rfl ?_
          exact ih 1 (v5 + 1) m12
        · refine j_iconst (pc := 98) (v := 0) (by decide) E dX10_goesThrough_98 ?_
          refine j_istore (pc := 99) (lv1 := [(4, .int 0), (0, .ref (xa X 85)), (1, .int v1), (2, .int v2), (3, .int v3), (5, .int v5)]) E dX10_goesThrough_99 (by decide) rfl ?_
          refine j_iinc (pc := 101) (v := (v5 + 1)) (lv1 := [(5, .int (v5 + 1)), (4, .int 0), (0, .ref (xa X 85)), (1, .int v1), (2, .int v2), (3, .int v3)]) E dX10_goesThrough_101 5 rfl rfl (by decide) rfl ?_
          refine j_goto (pc := 104) (tgt := 40) E dX10_goesThrough_104 (by decide) ?_
          refine JF.sub [2, 3, 4, 5, 1, 0] rfl ?_
          exact ih 0 (v5 + 1) m12
def fX10_goesThrough_L115 (N : Nat) (v1 : Int32) (v2 : Int32) (v3 : Int32) (k169 : XS → Option XO) : Nat → Int32 → XS → Option XO
  | 0, _, _ => none
  | n + 1, v5, σ => if v1 ≤ v5 then k169 σ else if (σ 85 23) = 0 then gd (xin v5 6) (xLet (xUp σ 97 v5.toNatClampNeg (σ 94 v5.toNatClampNeg)) (fun m16 => gd (xin v5 3) (fX10_goesThrough_L115 N v1 v2 v3 k169 n (v5 + 1) m16))) else gd (xin v5 3) (gd (xin v5 6) (if (σ 97 v5.toNatClampNeg) = (σ 94 v5.toNatClampNeg) then gd (xin v5 6) (xLet (xUp σ 97 v5.toNatClampNeg (σ 94 v5.toNatClampNeg)) (fun m22 => gd (xin v5 3) (fX10_goesThrough_L115 N v1 v2 v3 k169 n (v5 + 1) m22))) else xLet (xUp σ 97 v5.toNatClampNeg (-1)) (fun m19 => gd (xin v5 3) (fX10_goesThrough_L115 N v1 v2 v3 k169 n (v5 + 1) m19))))
set_option maxRecDepth 100000 in
set_option maxHeartbeats 4000000 in
theorem lX10_goesThrough_L115 (N : Nat) (v1 : Int32) (v2 : Int32) (v3 : Int32) (k169 : XS → Option XO) {X : XC} {o : XO} (E : XE X cX10_goesThrough RX10 6 4 96) (R : XV X o cX10_goesThrough) (K169 : ∀ (σ : XS), JF X o 6 169 [(0, .ref (xa X 85)), (1, .int v1), (2, .int v2), (3, .int v3)] [] σ (k169 σ)) : ∀ (n : Nat) (v5 : Int32) (σ : XS), JF X o 6 115 [(0, .ref (xa X 85)), (1, .int v1), (2, .int v2), (3, .int v3), (5, .int v5)] [] σ (fX10_goesThrough_L115 N v1 v2 v3 k169 n v5 σ) := by
  intro n
  induction n with
  | zero => intro v5 σ; exact JF.none
  | succ n ih =>
    intro v5 σ
    show JF X o 6 115 [(0, .ref (xa X 85)), (1, .int v1), (2, .int v2), (3, .int v3), (5, .int v5)] [] σ (if v1 ≤ v5 then k169 σ else if (σ 85 23) = 0 then gd (xin v5 6) (xLet (xUp σ 97 v5.toNatClampNeg (σ 94 v5.toNatClampNeg)) (fun m16 => gd (xin v5 3) (fX10_goesThrough_L115 N v1 v2 v3 k169 n (v5 + 1) m16))) else gd (xin v5 3) (gd (xin v5 6) (if (σ 97 v5.toNatClampNeg) = (σ 94 v5.toNatClampNeg) then gd (xin v5 6) (xLet (xUp σ 97 v5.toNatClampNeg (σ 94 v5.toNatClampNeg)) (fun m22 => gd (xin v5 3) (fX10_goesThrough_L115 N v1 v2 v3 k169 n (v5 + 1) m22))) else xLet (xUp σ 97 v5.toNatClampNeg (-1)) (fun m19 => gd (xin v5 3) (fX10_goesThrough_L115 N v1 v2 v3 k169 n (v5 + 1) m19)))))
    refine j_iload (pc := 115) 4 rfl E dX10_goesThrough_115 ?_
    refine j_iload_n (pc := 117) rfl 1 rfl E dX10_goesThrough_117 ?_
    refine j_icmp_ge (pc := 118) (tgt := 169) E dX10_goesThrough_118 (by decide) ?_ ?_
    · refine JF.sub [0, 1, 2, 3] rfl ?_
      exact K169  σ
    · refine j_aload_n (pc := 121) rfl 0 rfl E dX10_goesThrough_121 ?_
      refine j_get (pc := 122) E xuX10 rfl s_85 (k := 25) (by decide) q_1107 rfl (xflds_ref rfl) dX10_goesThrough_122 ?_
      refine j_iload (pc := 125) 4 rfl E dX10_goesThrough_125 ?_
      refine j_aload_n (pc := 127) rfl 0 rfl E dX10_goesThrough_127 ?_
      refine j_get (pc := 128) E xuX10 rfl s_85 (k := 23) (by decide) q_1105 rfl (xflds_int rfl) dX10_goesThrough_128 ?_
      refine j_if_eq (pc := 131) (tgt := 151) E dX10_goesThrough_131 (by decide) ?_ ?_
      · refine j_aload_n (pc := 151) rfl 0 rfl E dX10_goesThrough_151 ?_
        refine j_get (pc := 152) E xuX10 rfl s_85 (k := 21) (by decide) q_1103 rfl (xflds_ref rfl) dX10_goesThrough_152 ?_
        refine j_iload (pc := 155) 4 rfl E dX10_goesThrough_155 ?_
        refine j_iald (pc := 157) E s_94 dX10_goesThrough_157 ?_
        refine j_goto (pc := 158) (tgt := 162) E dX10_goesThrough_158 (by decide) ?_
        refine JF.xlet (fun m16 e17 => ?_)
        refine j_iast (pc := 162) E s_97 dX10_goesThrough_162 e17 ?_
        refine j_iinc (pc := 163) (v := (v5 + 1)) (lv1 := [(5, .int (v5 + 1)), (0, .ref (xa X 85)), (1, .int v1), (2, .int v2), (3, .int v3)]) E dX10_goesThrough_163 4 rfl rfl (by decide) rfl ?_
        refine j_goto (pc := 166) (tgt := 115) E dX10_goesThrough_166 (by decide) ?_
        refine JF.sub [1, 2, 3, 4, 0] rfl ?_
        exact ih (v5 + 1) m16
      · refine j_aload_n (pc := 134) rfl 0 rfl E dX10_goesThrough_134 ?_
        refine j_get (pc := 135) E xuX10 rfl s_85 (k := 25) (by decide) q_1107 rfl (xflds_ref rfl) dX10_goesThrough_135 ?_
        refine j_iload (pc := 138) 4 rfl E dX10_goesThrough_138 ?_
        refine j_iald (pc := 140) E s_97 dX10_goesThrough_140 ?_
        refine j_aload_n (pc := 141) rfl 0 rfl E dX10_goesThrough_141 ?_
        refine j_get (pc := 142) E xuX10 rfl s_85 (k := 21) (by decide) q_1103 rfl (xflds_ref rfl) dX10_goesThrough_142 ?_
        refine j_iload (pc := 145) 4 rfl E dX10_goesThrough_145 ?_
        refine j_iald (pc := 147) E s_94 dX10_goesThrough_147 ?_
        refine j_icmp_ne (pc := 148) (tgt := 161) E dX10_goesThrough_148 (by decide) ?_ ?_
        · refine j_aload_n (pc := 151) rfl 0 rfl E dX10_goesThrough_151 ?_
          refine j_get (pc := 152) E xuX10 rfl s_85 (k := 21) (by decide) q_1103 rfl (xflds_ref rfl) dX10_goesThrough_152 ?_
          refine j_iload (pc := 155) 4 rfl E dX10_goesThrough_155 ?_
          refine j_iald (pc := 157) E s_94 dX10_goesThrough_157 ?_
          refine j_goto (pc := 158) (tgt := 162) E dX10_goesThrough_158 (by decide) ?_
          refine JF.xlet (fun m22 e23 => ?_)
          refine j_iast (pc := 162) E s_97 dX10_goesThrough_162 e23 ?_
          refine j_iinc (pc := 163) (v := (v5 + 1)) (lv1 := [(5, .int (v5 + 1)), (0, .ref (xa X 85)), (1, .int v1), (2, .int v2), (3, .int v3)]) E dX10_goesThrough_163 4 rfl rfl (by decide) rfl ?_
          refine j_goto (pc := 166) (tgt := 115) E dX10_goesThrough_166 (by decide) ?_
          refine JF.sub [1, 2, 3, 4, 0] rfl ?_
          exact ih (v5 + 1) m22
        · refine j_iconst (pc := 161) (v := (-1)) (by decide) E dX10_goesThrough_161 ?_
          refine JF.xlet (fun m19 e20 => ?_)
          refine j_iast (pc := 162) E s_97 dX10_goesThrough_162 e20 ?_
          refine j_iinc (pc := 163) (v := (v5 + 1)) (lv1 := [(5, .int (v5 + 1)), (0, .ref (xa X 85)), (1, .int v1), (2, .int v2), (3, .int v3)]) E dX10_goesThrough_163 4 rfl rfl (by decide) rfl ?_
          refine j_goto (pc := 166) (tgt := 115) E dX10_goesThrough_166 (by decide) ?_
          refine JF.sub [1, 2, 3, 4, 0] rfl ?_
          exact ih (v5 + 1) m19
def fX10_goesThrough_L177 (N : Nat) (v1 : Int32) (v2 : Int32) (v3 : Int32) (k235 : XS → Option XO) : Nat → Int32 → XS → Option XO
  | 0, _, _ => none
  | n + 1, v5, σ => gd (xin 1 98) (if (σ 86 (1 : Int32).toNatClampNeg) ≤ v5 then k235 σ else gd (xin 2 98) (if (σ 86 (2 : Int32).toNatClampNeg) ≤ 0 then k235 σ else xB (fX10_isPassed N σ 94 v1 v5 0) (fun y29 m30 => if y29 = 0 then xLet (xUp m30 85 26 ((σ 85 26) ||| 0)) (fun m32 => fX10_goesThrough_L177 N v1 v2 v3 k235 n (v5 + 1) m32) else xLet (xUp m30 85 26 ((σ 85 26) ||| (1 <<< (v5 &&& 31)))) (fun m34 => fX10_goesThrough_L177 N v1 v2 v3 k235 n (v5 + 1) m34))))
set_option maxRecDepth 100000 in
set_option maxHeartbeats 4000000 in
theorem lX10_goesThrough_L177 (N : Nat) (v1 : Int32) (v2 : Int32) (v3 : Int32) (k235 : XS → Option XO) {X : XC} {o : XO} (E : XE X cX10_goesThrough RX10 6 4 96) (R : XV X o cX10_goesThrough) (K235 : ∀ (σ : XS), JF X o 6 235 [(0, .ref (xa X 85)), (1, .int v1), (2, .int v2), (3, .int v3)] [] σ (k235 σ)) : ∀ (n : Nat) (v5 : Int32) (σ : XS), JF X o 6 177 [(0, .ref (xa X 85)), (1, .int v1), (2, .int v2), (3, .int v3), (5, .int v5)] [] σ (fX10_goesThrough_L177 N v1 v2 v3 k235 n v5 σ) := by
  intro n
  induction n with
  | zero => intro v5 σ; exact JF.none
  | succ n ih =>
    intro v5 σ
    show JF X o 6 177 [(0, .ref (xa X 85)), (1, .int v1), (2, .int v2), (3, .int v3), (5, .int v5)] [] σ (gd (xin 1 98) (if (σ 86 (1 : Int32).toNatClampNeg) ≤ v5 then k235 σ else gd (xin 2 98) (if (σ 86 (2 : Int32).toNatClampNeg) ≤ 0 then k235 σ else xB (fX10_isPassed N σ 94 v1 v5 0) (fun y29 m30 => if y29 = 0 then xLet (xUp m30 85 26 ((σ 85 26) ||| 0)) (fun m32 => fX10_goesThrough_L177 N v1 v2 v3 k235 n (v5 + 1) m32) else xLet (xUp m30 85 26 ((σ 85 26) ||| (1 <<< (v5 &&& 31)))) (fun m34 => fX10_goesThrough_L177 N v1 v2 v3 k235 n (v5 + 1) m34)))))
    refine j_iload (pc := 177) 4 rfl E dX10_goesThrough_177 ?_
    refine j_aload_n (pc := 179) rfl 0 rfl E dX10_goesThrough_179 ?_
    refine j_get (pc := 180) E xuX10 rfl s_85 (k := 0) (by decide) q_1082 rfl (xflds_ref rfl) dX10_goesThrough_180 ?_
    refine j_iconst (pc := 183) (v := 1) (by decide) E dX10_goesThrough_183 ?_
    refine j_iald (pc := 184) E s_86 dX10_goesThrough_184 ?_
    refine j_icmp_ge (pc := 185) (tgt := 235) E dX10_goesThrough_185 (by decide) ?_ ?_
    · refine JF.sub [0, 1, 2, 3] rfl ?_
      exact K235  σ
    · refine j_aload_n (pc := 188) rfl 0 rfl E dX10_goesThrough_188 ?_
      refine j_get (pc := 189) E xuX10 rfl s_85 (k := 0) (by decide) q_1082 rfl (xflds_ref rfl) dX10_goesThrough_189 ?_
      refine j_iconst (pc := 192) (v := 2) (by decide) E dX10_goesThrough_192 ?_
      refine j_iald (pc := 193) E s_86 dX10_goesThrough_193 ?_
      refine j_if_le (pc := 194) (tgt := 235) E dX10_goesThrough_194 (by decide) ?_ ?_
      · refine JF.sub [0, 1, 2, 3] rfl ?_
        exact K235  σ
      · refine j_aload_n (pc := 197) rfl 0 rfl E dX10_goesThrough_197 ?_
        refine j_dup (pc := 198) rfl E dX10_goesThrough_198 ?_
        refine j_get (pc := 199) E xuX10 rfl s_85 (k := 26) (by decide) q_1108 rfl (xflds_int rfl) dX10_goesThrough_199 ?_
        refine j_aload_n (pc := 202) rfl 0 rfl E dX10_goesThrough_202 ?_
        refine j_aload_n (pc := 203) rfl 0 rfl E dX10_goesThrough_203 ?_
        refine j_get (pc := 204) E xuX10 rfl s_85 (k := 21) (by decide) q_1103 rfl (xflds_ref rfl) dX10_goesThrough_204 ?_
        refine j_iload_n (pc := 207) rfl 1 rfl E dX10_goesThrough_207 ?_
        refine j_iload (pc := 208) 4 rfl E dX10_goesThrough_208 ?_
        refine j_iconst (pc := 210) (v := 0) (by decide) E dX10_goesThrough_210 ?_
        refine JF.xb (fun y29 m30 h31 => ?_)
        refine j_callVi (pc := 211) (st := [.int (σ 85 26), .ref (xa X 85)]) E (kX10_isPassed xr_94 h31) mv_X10_isPassed rfl s_85 q_1321 [.ref (xa X 94), .int v1, .int v5, .int 0] rfl rfl rfl (by decide) (Nat.le_of_ble_eq_true rfl) dX10_goesThrough_211 ?_
        refine j_if_eq (pc := 214) (tgt := 224) E dX10_goesThrough_214 (by decide) ?_ ?_
        · refine j_iconst (pc := 224) (v := 0) (by decide) E dX10_goesThrough_224 ?_
          refine j_ior (pc := 225) E dX10_goesThrough_225 ?_
          refine JF.xlet (fun m32 e33 => ?_)
          refine j_put (pc := 226) E xuX10 tyX10 tyX10_ok nmX10 rfl s_85 rfl (k := 26) (by decide) q_1108 rfl rfl (ty := .int) (by decide +kernel) rfl rfl dX10_goesThrough_226 e33 ?_
          refine j_iinc (pc := 229) (v := (v5 + 1)) (lv1 := [(5, .int (v5 + 1)), (0, .ref (xa X 85)), (1, .int v1), (2, .int v2), (3, .int v3)]) E dX10_goesThrough_229 4 rfl rfl (by decide) rfl ?_
          refine j_goto (pc := 232) (tgt := 177) E dX10_goesThrough_232 (by decide) ?_
          refine JF.sub [1, 2, 3, 4, 0] rfl ?_
          exact ih (v5 + 1) m32
        · refine j_iconst (pc := 217) (v := 1) (by decide) E dX10_goesThrough_217 ?_
          refine j_iload (pc := 218) 4 rfl E dX10_goesThrough_218 ?_
          refine j_ishl (pc := 220) E dX10_goesThrough_220 ?_
          refine j_goto (pc := 221) (tgt := 225) E dX10_goesThrough_221 (by decide) ?_
          refine j_ior (pc := 225) E dX10_goesThrough_225 ?_
          refine JF.xlet (fun m34 e35 => ?_)
          refine j_put (pc := 226) E xuX10 tyX10 tyX10_ok nmX10 rfl s_85 rfl (k := 26) (by decide) q_1108 rfl rfl (ty := .int) (by decide +kernel) rfl rfl dX10_goesThrough_226 e35 ?_
          refine j_iinc (pc := 229) (v := (v5 + 1)) (lv1 := [(5, .int (v5 + 1)), (0, .ref (xa X 85)), (1, .int v1), (2, .int v2), (3, .int v3)]) E dX10_goesThrough_229 4 rfl rfl (by decide) rfl ?_
          refine j_goto (pc := 232) (tgt := 177) E dX10_goesThrough_232 (by decide) ?_
          refine JF.sub [1, 2, 3, 4, 0] rfl ?_
          exact ih (v5 + 1) m34
def fX10_goesThrough_L23 (N : Nat) (v1 : Int32) (v2 : Int32) (k241 : XS → Option XO) : Nat → Int32 → XS → Option XO
  | 0, _, _ => none
  | n + 1, v3, σ => if v2 ≤ v3 then k241 σ else xB (fX10_lays N σ v3 v1) (fun _ m9 => fX10_goesThrough_L40 N v1 v2 v3 (fun x14 m15 => if x14 = 0 then fX10_goesThrough_L23 N v1 v2 k241 n (v3 + 1) m15 else fX10_goesThrough_L115 N v1 v2 v3 (fun m25 => xB (fX10_keepsFirst N m25 v1) (fun _ m27 => fX10_goesThrough_L177 N v1 v2 v3 (fun m36 => fX10_goesThrough_L23 N v1 v2 k241 n (v3 + 1) m36) N 0 m27)) N 0 m15) N 1 0 m9)
set_option maxRecDepth 100000 in
set_option maxHeartbeats 4000000 in
theorem lX10_goesThrough_L23 (N : Nat) (v1 : Int32) (v2 : Int32) (k241 : XS → Option XO) {X : XC} {o : XO} (E : XE X cX10_goesThrough RX10 6 4 96) (R : XV X o cX10_goesThrough) (K241 : ∀ (σ : XS), JF X o 6 241 [] [] σ (k241 σ)) : ∀ (n : Nat) (v3 : Int32) (σ : XS), JF X o 6 23 [(0, .ref (xa X 85)), (1, .int v1), (2, .int v2), (3, .int v3)] [] σ (fX10_goesThrough_L23 N v1 v2 k241 n v3 σ) := by
  intro n
  induction n with
  | zero => intro v3 σ; exact JF.none
  | succ n ih =>
    intro v3 σ
    show JF X o 6 23 [(0, .ref (xa X 85)), (1, .int v1), (2, .int v2), (3, .int v3)] [] σ (if v2 ≤ v3 then k241 σ else xB (fX10_lays N σ v3 v1) (fun _ m9 => fX10_goesThrough_L40 N v1 v2 v3 (fun x14 m15 => if x14 = 0 then fX10_goesThrough_L23 N v1 v2 k241 n (v3 + 1) m15 else fX10_goesThrough_L115 N v1 v2 v3 (fun m25 => xB (fX10_keepsFirst N m25 v1) (fun _ m27 => fX10_goesThrough_L177 N v1 v2 v3 (fun m36 => fX10_goesThrough_L23 N v1 v2 k241 n (v3 + 1) m36) N 0 m27)) N 0 m15) N 1 0 m9))
    refine j_iload_n (pc := 23) rfl 3 rfl E dX10_goesThrough_23 ?_
    refine j_iload_n (pc := 24) rfl 2 rfl E dX10_goesThrough_24 ?_
    refine j_icmp_ge (pc := 25) (tgt := 241) E dX10_goesThrough_25 (by decide) ?_ ?_
    · refine JF.sub [] rfl ?_
      exact K241  σ
    · refine j_aload_n (pc := 28) rfl 0 rfl E dX10_goesThrough_28 ?_
      refine j_iload_n (pc := 29) rfl 3 rfl E dX10_goesThrough_29 ?_
      refine j_iload_n (pc := 30) rfl 1 rfl E dX10_goesThrough_30 ?_
      refine JF.xb (fun y8 m9 h10 => ?_)
      refine j_callVv (pc := 31) (st := []) E (kX10_lays h10) mv_X10_lays rfl s_85 q_1377 [.int v3, .int v1] rfl rfl rfl (by decide) (Nat.le_of_ble_eq_true rfl) dX10_goesThrough_31 ?_
      refine j_iconst (pc := 34) (v := 1) (by decide) E dX10_goesThrough_34 ?_
      refine j_istore (pc := 35) (lv1 := [(4, .int 1), (0, .ref (xa X 85)), (1, .int v1), (2, .int v2), (3, .int v3)]) E dX10_goesThrough_35 (by decide) rfl ?_
      refine j_iconst (pc := 37) (v := 0) (by decide) E dX10_goesThrough_37 ?_
      refine j_istore (pc := 38) (lv1 := [(5, .int 0), (4, .int 1), (0, .ref (xa X 85)), (1, .int v1), (2, .int v2), (3, .int v3)]) E dX10_goesThrough_38 (by decide) rfl ?_
      refine JF.sub [2, 3, 4, 5, 1, 0] rfl ?_
      refine lX10_goesThrough_L40 N v1 v2 v3 _ E R (fun x14 m15 => ?_) N 1 0 m9
      · refine j_iload (pc := 107) 4 rfl E dX10_goesThrough_107 ?_
        refine j_if_eq (pc := 109) (tgt := 235) E dX10_goesThrough_109 (by decide) ?_ ?_
        · refine j_iinc (pc := 235) (v := (v3 + 1)) (lv1 := [(3, .int (v3 + 1)), (0, .ref (xa X 85)), (1, .int v1), (2, .int v2), (4, .int x14)]) E dX10_goesThrough_235 3 rfl rfl (by decide) rfl ?_
          refine j_goto (pc := 238) (tgt := 23) E dX10_goesThrough_238 (by decide) ?_
          refine JF.sub [1, 2, 3, 0] rfl ?_
          exact ih (v3 + 1) m15
        · refine j_iconst (pc := 112) (v := 0) (by decide) E dX10_goesThrough_112 ?_
          refine j_istore (pc := 113) (lv1 := [(5, .int 0), (0, .ref (xa X 85)), (1, .int v1), (2, .int v2), (3, .int v3), (4, .int x14)]) E dX10_goesThrough_113 (by decide) rfl ?_
          refine JF.sub [1, 2, 3, 4, 0] rfl ?_
          refine lX10_goesThrough_L115 N v1 v2 v3 _ E R (fun m25 => ?_) N 0 m15
          · refine j_aload_n (pc := 169) rfl 0 rfl E dX10_goesThrough_169 ?_
            refine j_iload_n (pc := 170) rfl 1 rfl E dX10_goesThrough_170 ?_
            refine JF.xb (fun y26 m27 h28 => ?_)
            refine j_callVv (pc := 171) (st := []) E (kX10_keepsFirst h28) mv_X10_keepsFirst rfl s_85 q_1385 [.int v1] rfl rfl rfl (by decide) (Nat.le_of_ble_eq_true rfl) dX10_goesThrough_171 ?_
            refine j_iconst (pc := 174) (v := 0) (by decide) E dX10_goesThrough_174 ?_
            refine j_istore (pc := 175) (lv1 := [(5, .int 0), (0, .ref (xa X 85)), (1, .int v1), (2, .int v2), (3, .int v3)]) E dX10_goesThrough_175 (by decide) rfl ?_
            refine JF.sub [1, 2, 3, 4, 0] rfl ?_
            refine lX10_goesThrough_L177 N v1 v2 v3 _ E R (fun m36 => ?_) N 0 m27
            · refine j_iinc (pc := 235) (v := (v3 + 1)) (lv1 := [(3, .int (v3 + 1)), (0, .ref (xa X 85)), (1, .int v1), (2, .int v2)]) E dX10_goesThrough_235 3 rfl rfl (by decide) rfl ?_
              refine j_goto (pc := 238) (tgt := 23) E dX10_goesThrough_238 (by decide) ?_
              refine JF.sub [1, 2, 3, 0] rfl ?_
              exact ih (v3 + 1) m36
def fX10_goesThrough (N : Nat) (σ : XS) : Option XO := xLet (xUp σ 85 23 0) (fun m1 => xLet (xUp m1 85 26 0) (fun m3 => xB (fX10_ways N m3 (m3 85 9)) (fun y5 m6 => fX10_goesThrough_L23 N (m3 85 9) y5 (fun m37 => some (0, m37)) N 0 m6)))
set_option maxRecDepth 100000 in
set_option maxHeartbeats 4000000 in
theorem kX10_goesThrough {N : Nat} {σ : XS} {o : XO} (h : fX10_goesThrough N σ = some o) : CtV yX10_goesThrough cX10_goesThrough 6 none 4 96 (fun Am ad => [.ref (Am 85)]) σ o := by
  refine ct_void (by decide) (fun _ _ => Nat.le_of_ble_eq_true rfl) (fun X E R => ?_)
  rw [← h]
  show JF X o 6 0 [(0, .ref (xa X 85))] [] σ (xLet (xUp σ 85 23 0) (fun m1 => xLet (xUp m1 85 26 0) (fun m3 => xB (fX10_ways N m3 (m3 85 9)) (fun y5 m6 => fX10_goesThrough_L23 N (m3 85 9) y5 (fun m37 => some (0, m37)) N 0 m6))))
  refine j_aload_n (pc := 0) rfl 0 rfl E dX10_goesThrough_0 ?_
  refine j_iconst (pc := 1) (v := 0) (by decide) E dX10_goesThrough_1 ?_
  refine JF.xlet (fun m1 e2 => ?_)
  refine j_put (pc := 2) E xuX10 tyX10 tyX10_ok nmX10 rfl s_85 rfl (k := 23) (by decide) q_1105 rfl rfl (ty := .int) (by decide +kernel) rfl rfl dX10_goesThrough_2 e2 ?_
  refine j_aload_n (pc := 5) rfl 0 rfl E dX10_goesThrough_5 ?_
  refine j_iconst (pc := 6) (v := 0) (by decide) E dX10_goesThrough_6 ?_
  refine JF.xlet (fun m3 e4 => ?_)
  refine j_put (pc := 7) E xuX10 tyX10 tyX10_ok nmX10 rfl s_85 rfl (k := 26) (by decide) q_1108 rfl rfl (ty := .int) (by decide +kernel) rfl rfl dX10_goesThrough_7 e4 ?_
  refine j_aload_n (pc := 10) rfl 0 rfl E dX10_goesThrough_10 ?_
  refine j_get (pc := 11) E xuX10 rfl s_85 (k := 9) (by decide) q_1091 rfl (xflds_int rfl) dX10_goesThrough_11 ?_
  refine j_istore_n (pc := 14) (lv1 := [(1, .int (m3 85 9)), (0, .ref (xa X 85))]) E dX10_goesThrough_14 rfl (by decide) rfl ?_
  refine j_aload_n (pc := 15) rfl 1 rfl E dX10_goesThrough_15 ?_
  refine j_iload_n (pc := 16) rfl 0 rfl E dX10_goesThrough_16 ?_
  refine JF.xb (fun y5 m6 h7 => ?_)
  refine j_callVi (pc := 17) (st := []) E (kX10_ways h7) mv_X10_ways rfl s_85 q_1373 [.int (m3 85 9)] rfl rfl rfl (by decide) (Nat.le_of_ble_eq_true rfl) dX10_goesThrough_17 ?_
  refine j_istore_n (pc := 20) (lv1 := [(2, .int y5), (1, .int (m3 85 9)), (0, .ref (xa X 85))]) E dX10_goesThrough_20 rfl (by decide) rfl ?_
  refine j_iconst (pc := 21) (v := 0) (by decide) E dX10_goesThrough_21 ?_
  refine j_istore_n (pc := 22) (lv1 := [(3, .int 0), (2, .int y5), (1, .int (m3 85 9)), (0, .ref (xa X 85))]) E dX10_goesThrough_22 rfl (by decide) rfl ?_
  refine JF.sub [3, 2, 1, 0] rfl ?_
  refine lX10_goesThrough_L23 N (m3 85 9) y5 _ E R (fun m37 => ?_) N 0 m6
  · exact j_vret (pc := 241) E R dX10_goesThrough_241
def fX10_canBe (N : Nat) (σ : XS) (p1 : Int32) : Option XO := xB (fX10_in N σ p1.toInt64 0 1) (fun y1 m2 => if y1 = 0 then some ((-3), m2) else if (m2 85 9) = 0 then some ((-4), m2) else xB (fX10_goesThrough N m2) (fun _ m5 => if p1 = 0 then some ((m5 85 23), m5) else some ((m5 85 26), m5)))
set_option maxRecDepth 100000 in
set_option maxHeartbeats 4000000 in
theorem kX10_canBe {N : Nat} {σ : XS} {p1 : Int32} {o : XO} (h : fX10_canBe N σ p1 = some o) : CtI yX10_canBe cX10_canBe 2 (some .int) 5 121 (fun Am ad => [.ref (Am 85), .int p1]) σ o := by
  refine ct_int (by decide) (fun _ _ => Nat.le_of_ble_eq_true rfl) (fun X E R => ?_)
  rw [← h]
  show JF X o 2 0 [(0, .ref (xa X 85)), (1, .int p1)] [] σ (xB (fX10_in N σ p1.toInt64 0 1) (fun y1 m2 => if y1 = 0 then some ((-3), m2) else if (m2 85 9) = 0 then some ((-4), m2) else xB (fX10_goesThrough N m2) (fun _ m5 => if p1 = 0 then some ((m5 85 23), m5) else some ((m5 85 26), m5))))
  refine j_iload_n (pc := 0) rfl 1 rfl E dX10_canBe_0 ?_
  refine j_i2l (pc := 1) E dX10_canBe_1 ?_
  refine j_lconst (pc := 2) (v := 0) (by decide) E dX10_canBe_2 ?_
  refine j_lconst (pc := 3) (v := 1) (by decide) E dX10_canBe_3 ?_
  refine JF.xb (fun y1 m2 h3 => ?_)
  refine j_callSi (pc := 4) (st := []) E (kX10_in h3) mv_X10_in q_1079 [.long p1.toInt64, .long 0, .long 1] rfl rfl rfl (by decide) (Nat.le_of_ble_eq_true rfl) dX10_canBe_4 ?_
  refine j_if_ne (pc := 7) (tgt := 13) E dX10_canBe_7 (by decide) ?_ ?_
  · refine j_bipush (pc := 10) (v := (-3)) (by decide) E dX10_canBe_10 ?_
    exact j_iret (pc := 12) E R dX10_canBe_12
  · refine j_aload_n (pc := 13) rfl 0 rfl E dX10_canBe_13 ?_
    refine j_get (pc := 14) E xuX10 rfl s_85 (k := 9) (by decide) q_1091 rfl (xflds_int rfl) dX10_canBe_14 ?_
    refine j_if_ne (pc := 17) (tgt := 23) E dX10_canBe_17 (by decide) ?_ ?_
    · refine j_bipush (pc := 20) (v := (-4)) (by decide) E dX10_canBe_20 ?_
      exact j_iret (pc := 22) E R dX10_canBe_22
    · refine j_aload_n (pc := 23) rfl 0 rfl E dX10_canBe_23 ?_
      refine JF.xb (fun y4 m5 h6 => ?_)
      refine j_callVv (pc := 24) (st := []) E (kX10_goesThrough h6) mv_X10_goesThrough rfl s_85 q_1442 [] rfl rfl rfl (by decide) (Nat.le_of_ble_eq_true rfl) dX10_canBe_24 ?_
      refine j_iload_n (pc := 27) rfl 1 rfl E dX10_canBe_27 ?_
      refine j_if_ne (pc := 28) (tgt := 38) E dX10_canBe_28 (by decide) ?_ ?_
      · refine j_aload_n (pc := 31) rfl 0 rfl E dX10_canBe_31 ?_
        refine j_get (pc := 32) E xuX10 rfl s_85 (k := 23) (by decide) q_1105 rfl (xflds_int rfl) dX10_canBe_32 ?_
        refine j_goto (pc := 35) (tgt := 42) E dX10_canBe_35 (by decide) ?_
        exact j_iret (pc := 42) E R dX10_canBe_42
      · refine j_aload_n (pc := 38) rfl 0 rfl E dX10_canBe_38 ?_
        refine j_get (pc := 39) E xuX10 rfl s_85 (k := 26) (by decide) q_1108 rfl (xflds_int rfl) dX10_canBe_39 ?_
        exact j_iret (pc := 42) E R dX10_canBe_42
def fX10_canBeWord (N : Nat) (σ : XS) (p1 : Int32) (p2 : Int32) : Option XO := if p1 < 0 then some ((-3), σ) else xB (fX10_in N σ p2.toInt64 0 1) (fun y1 m2 => if y1 = 0 then some ((-3), m2) else if (m2 85 9) = 0 then some ((-4), m2) else xB (fX10_goesThrough N m2) (fun _ m5 => if (m5 85 23) = 0 then some ((-1), m5) else if p1 < (m5 85 9) then if p2 = 0 then gd (xin p1 6) (some ((m5 95 p1.toNatClampNeg), m5)) else gd (xin p1 3) (some ((m5 97 p1.toNatClampNeg), m5)) else some ((-1), m5)))
set_option maxRecDepth 100000 in
set_option maxHeartbeats 4000000 in
theorem kX10_canBeWord {N : Nat} {σ : XS} {p1 : Int32} {p2 : Int32} {o : XO} (h : fX10_canBeWord N σ p1 p2 = some o) : CtI yX10_canBeWord cX10_canBeWord 3 (some .int) 5 121 (fun Am ad => [.ref (Am 85), .int p1, .int p2]) σ o := by
  refine ct_int (by decide) (fun _ _ => Nat.le_of_ble_eq_true rfl) (fun X E R => ?_)
  rw [← h]
  show JF X o 3 0 [(0, .ref (xa X 85)), (1, .int p1), (2, .int p2)] [] σ (if p1 < 0 then some ((-3), σ) else xB (fX10_in N σ p2.toInt64 0 1) (fun y1 m2 => if y1 = 0 then some ((-3), m2) else if (m2 85 9) = 0 then some ((-4), m2) else xB (fX10_goesThrough N m2) (fun _ m5 => if (m5 85 23) = 0 then some ((-1), m5) else if p1 < (m5 85 9) then if p2 = 0 then gd (xin p1 6) (some ((m5 95 p1.toNatClampNeg), m5)) else gd (xin p1 3) (some ((m5 97 p1.toNatClampNeg), m5)) else some ((-1), m5))))
  refine j_iload_n (pc := 0) rfl 1 rfl E dX10_canBeWord_0 ?_
  refine j_if_lt (pc := 1) (tgt := 14) E dX10_canBeWord_1 (by decide) ?_ ?_
  · refine j_bipush (pc := 14) (v := (-3)) (by decide) E dX10_canBeWord_14 ?_
    exact j_iret (pc := 16) E R dX10_canBeWord_16
  · refine j_iload_n (pc := 4) rfl 2 rfl E dX10_canBeWord_4 ?_
    refine j_i2l (pc := 5) E dX10_canBeWord_5 ?_
    refine j_lconst (pc := 6) (v := 0) (by decide) E dX10_canBeWord_6 ?_
    refine j_lconst (pc := 7) (v := 1) (by decide) E dX10_canBeWord_7 ?_
    refine JF.xb (fun y1 m2 h3 => ?_)
    refine j_callSi (pc := 8) (st := []) E (kX10_in h3) mv_X10_in q_1079 [.long p2.toInt64, .long 0, .long 1] rfl rfl rfl (by decide) (Nat.le_of_ble_eq_true rfl) dX10_canBeWord_8 ?_
    refine j_if_ne (pc := 11) (tgt := 17) E dX10_canBeWord_11 (by decide) ?_ ?_
    · refine j_bipush (pc := 14) (v := (-3)) (by decide) E dX10_canBeWord_14 ?_
      exact j_iret (pc := 16) E R dX10_canBeWord_16
    · refine j_aload_n (pc := 17) rfl 0 rfl E dX10_canBeWord_17 ?_
      refine j_get (pc := 18) E xuX10 rfl s_85 (k := 9) (by decide) q_1091 rfl (xflds_int rfl) dX10_canBeWord_18 ?_
      refine j_if_ne (pc := 21) (tgt := 27) E dX10_canBeWord_21 (by decide) ?_ ?_
      · refine j_bipush (pc := 24) (v := (-4)) (by decide) E dX10_canBeWord_24 ?_
        exact j_iret (pc := 26) E R dX10_canBeWord_26
      · refine j_aload_n (pc := 27) rfl 0 rfl E dX10_canBeWord_27 ?_
        refine JF.xb (fun y4 m5 h6 => ?_)
        refine j_callVv (pc := 28) (st := []) E (kX10_goesThrough h6) mv_X10_goesThrough rfl s_85 q_1442 [] rfl rfl rfl (by decide) (Nat.le_of_ble_eq_true rfl) dX10_canBeWord_28 ?_
        refine j_aload_n (pc := 31) rfl 0 rfl E dX10_canBeWord_31 ?_
        refine j_get (pc := 32) E xuX10 rfl s_85 (k := 23) (by decide) q_1105 rfl (xflds_int rfl) dX10_canBeWord_32 ?_
        refine j_if_eq (pc := 35) (tgt := 46) E dX10_canBeWord_35 (by decide) ?_ ?_
        · refine j_iconst (pc := 46) (v := (-1)) (by decide) E dX10_canBeWord_46 ?_
          refine j_goto (pc := 47) (tgt := 69) E dX10_canBeWord_47 (by decide) ?_
          exact j_iret (pc := 69) E R dX10_canBeWord_69
        · refine j_iload_n (pc := 38) rfl 1 rfl E dX10_canBeWord_38 ?_
          refine j_aload_n (pc := 39) rfl 0 rfl E dX10_canBeWord_39 ?_
          refine j_get (pc := 40) E xuX10 rfl s_85 (k := 9) (by decide) q_1091 rfl (xflds_int rfl) dX10_canBeWord_40 ?_
          refine j_icmp_lt (pc := 43) (tgt := 50) E dX10_canBeWord_43 (by decide) ?_ ?_
          · refine j_iload_n (pc := 50) rfl 2 rfl E dX10_canBeWord_50 ?_
            refine j_if_ne (pc := 51) (tgt := 63) E dX10_canBeWord_51 (by decide) ?_ ?_
            · refine j_aload_n (pc := 54) rfl 0 rfl E dX10_canBeWord_54 ?_
              refine j_get (pc := 55) E xuX10 rfl s_85 (k := 22) (by decide) q_1104 rfl (xflds_ref rfl) dX10_canBeWord_55 ?_
              refine j_iload_n (pc := 58) rfl 1 rfl E dX10_canBeWord_58 ?_
              refine j_iald (pc := 59) E s_95 dX10_canBeWord_59 ?_
              refine j_goto (pc := 60) (tgt := 69) E dX10_canBeWord_60 (by decide) ?_
              exact j_iret (pc := 69) E R dX10_canBeWord_69
            · refine j_aload_n (pc := 63) rfl 0 rfl E dX10_canBeWord_63 ?_
              refine j_get (pc := 64) E xuX10 rfl s_85 (k := 25) (by decide) q_1107 rfl (xflds_ref rfl) dX10_canBeWord_64 ?_
              refine j_iload_n (pc := 67) rfl 1 rfl E dX10_canBeWord_67 ?_
              refine j_iald (pc := 68) E s_97 dX10_canBeWord_68 ?_
              exact j_iret (pc := 69) E R dX10_canBeWord_69
          · refine j_iconst (pc := 46) (v := (-1)) (by decide) E dX10_canBeWord_46 ?_
            refine j_goto (pc := 47) (tgt := 69) E dX10_canBeWord_47 (by decide) ?_
            exact j_iret (pc := 69) E R dX10_canBeWord_69
def fX10_count_L19 (N : Nat) (v1 : Int32) (k61 : Int32 → XS → Option XO) : Nat → Int32 → Int32 → XS → Option XO
  | 0, _, _, _ => none
  | n + 1, v2, v3, σ => gd (xin 1 98) (if (σ 86 (1 : Int32).toNatClampNeg) ≤ v3 then k61 v2 σ else gd (xin ((46 + (3 * v3)) + 2) 98) (if (σ 86 ((46 + (3 * v3)) + 2).toNatClampNeg) = 0 then xLetI (v2 ||| (1 <<< (v3 &&& 31))) (fun x4 => fX10_count_L19 N v1 k61 n x4 (v3 + 1) σ) else fX10_count_L19 N v1 k61 n (v2 ||| 0) (v3 + 1) σ))
set_option maxRecDepth 100000 in
set_option maxHeartbeats 4000000 in
theorem lX10_count_L19 (N : Nat) (v1 : Int32) (k61 : Int32 → XS → Option XO) {X : XC} {o : XO} (E : XE X cX10_count RX10 4 1 25) (R : XI X o cX10_count) (K61 : ∀ (v2 : Int32) (σ : XS), JF X o 4 61 [(0, .ref (xa X 85)), (1, .int v1), (2, .int v2)] [] σ (k61 v2 σ)) : ∀ (n : Nat) (v2 : Int32) (v3 : Int32) (σ : XS), JF X o 4 19 [(0, .ref (xa X 85)), (1, .int v1), (2, .int v2), (3, .int v3)] [] σ (fX10_count_L19 N v1 k61 n v2 v3 σ) := by
  intro n
  induction n with
  | zero => intro v2 v3 σ; exact JF.none
  | succ n ih =>
    intro v2 v3 σ
    show JF X o 4 19 [(0, .ref (xa X 85)), (1, .int v1), (2, .int v2), (3, .int v3)] [] σ (gd (xin 1 98) (if (σ 86 (1 : Int32).toNatClampNeg) ≤ v3 then k61 v2 σ else gd (xin ((46 + (3 * v3)) + 2) 98) (if (σ 86 ((46 + (3 * v3)) + 2).toNatClampNeg) = 0 then xLetI (v2 ||| (1 <<< (v3 &&& 31))) (fun x4 => fX10_count_L19 N v1 k61 n x4 (v3 + 1) σ) else fX10_count_L19 N v1 k61 n (v2 ||| 0) (v3 + 1) σ)))
    refine j_iload_n (pc := 19) rfl 3 rfl E dX10_count_19 ?_
    refine j_aload_n (pc := 20) rfl 0 rfl E dX10_count_20 ?_
    refine j_get (pc := 21) E xuX10 rfl s_85 (k := 0) (by decide) q_1082 rfl (xflds_ref rfl) dX10_count_21 ?_
    refine j_iconst (pc := 24) (v := 1) (by decide) E dX10_count_24 ?_
    refine j_iald (pc := 25) E s_86 dX10_count_25 ?_
    refine j_icmp_ge (pc := 26) (tgt := 61) E dX10_count_26 (by decide) ?_ ?_
    · refine JF.sub [0, 1, 2] rfl ?_
      exact K61 v2 σ
    · refine j_iload_n (pc := 29) rfl 2 rfl E dX10_count_29 ?_
      refine j_aload_n (pc := 30) rfl 0 rfl E dX10_count_30 ?_
      refine j_get (pc := 31) E xuX10 rfl s_85 (k := 0) (by decide) q_1082 rfl (xflds_ref rfl) dX10_count_31 ?_
      refine j_bipush (pc := 34) (v := 46) (by decide) E dX10_count_34 ?_
      refine j_iconst (pc := 36) (v := 3) (by decide) E dX10_count_36 ?_
      refine j_iload_n (pc := 37) rfl 3 rfl E dX10_count_37 ?_
      refine j_imul (pc := 38) E dX10_count_38 ?_
      refine j_iadd (pc := 39) E dX10_count_39 ?_
      refine j_iconst (pc := 40) (v := 2) (by decide) E dX10_count_40 ?_
      refine j_iadd (pc := 41) E dX10_count_41 ?_
      refine j_iald (pc := 42) E s_86 dX10_count_42 ?_
      refine j_if_ne (pc := 43) (tgt := 52) E dX10_count_43 (by decide) ?_ ?_
      · refine j_iconst (pc := 46) (v := 1) (by decide) E dX10_count_46 ?_
        refine j_iload_n (pc := 47) rfl 3 rfl E dX10_count_47 ?_
        refine j_ishl (pc := 48) E dX10_count_48 ?_
        refine j_goto (pc := 49) (tgt := 53) E dX10_count_49 (by decide) ?_
        refine j_ior (pc := 53) E dX10_count_53 ?_
        refine JF.xletI (fun x4 => ?_)
        refine j_istore_n (pc := 54) (lv1 := [(2, .int x4), (0, .ref (xa X 85)), (1, .int v1), (3, .int v3)]) E dX10_count_54 rfl (by decide) rfl ?_
        refine j_iinc (pc := 55) (v := (v3 + 1)) (lv1 := [(3, .int (v3 + 1)), (2, .int x4), (0, .ref (xa X 85)), (1, .int v1)]) E dX10_count_55 3 rfl rfl (by decide) rfl ?_
        refine j_goto (pc := 58) (tgt := 19) E dX10_count_58 (by decide) ?_
        refine JF.sub [2, 3, 1, 0] rfl ?_
        exact ih x4 (v3 + 1) σ
      · refine j_iconst (pc := 52) (v := 0) (by decide) E dX10_count_52 ?_
        refine j_ior (pc := 53) E dX10_count_53 ?_
        refine j_istore_n (pc := 54) (lv1 := [(2, .int (v2 ||| 0)), (0, .ref (xa X 85)), (1, .int v1), (3, .int v3)]) E dX10_count_54 rfl (by decide) rfl ?_
        refine j_iinc (pc := 55) (v := (v3 + 1)) (lv1 := [(3, .int (v3 + 1)), (2, .int (v2 ||| 0)), (0, .ref (xa X 85)), (1, .int v1)]) E dX10_count_55 3 rfl rfl (by decide) rfl ?_
        refine j_goto (pc := 58) (tgt := 19) E dX10_count_58 (by decide) ?_
        refine JF.sub [2, 3, 1, 0] rfl ?_
        exact ih (v2 ||| 0) (v3 + 1) σ
def fX10_count_J91 (N : Nat) (v1 : Int32) (v2 : Int32) (t0 : Int32) (σ : XS) : Option XO := if 6 ≤ v1 then if v1 = 6 then some (v2, σ) else if v1 = 7 then some ((σ 85 6), σ) else some (t0, σ) else gd (xin v1 98) (some ((σ 86 v1.toNatClampNeg), σ))
set_option maxRecDepth 100000 in
set_option maxHeartbeats 4000000 in
theorem lX10_count_J91 (N : Nat) (v1 : Int32) (v2 : Int32) (t0 : Int32) {X : XC} {o : XO} (E : XE X cX10_count RX10 4 1 25) (R : XI X o cX10_count) (σ : XS) : JF X o 4 91 [(0, .ref (xa X 85)), (1, .int v1), (2, .int v2)] [.int t0] σ (fX10_count_J91 N v1 v2 t0 σ) := by
  show JF X o 4 91 [(0, .ref (xa X 85)), (1, .int v1), (2, .int v2)] [.int t0] σ (if 6 ≤ v1 then if v1 = 6 then some (v2, σ) else if v1 = 7 then some ((σ 85 6), σ) else some (t0, σ) else gd (xin v1 98) (some ((σ 86 v1.toNatClampNeg), σ)))
  refine j_istore_n (pc := 91) (lv1 := [(3, .int t0), (0, .ref (xa X 85)), (1, .int v1), (2, .int v2)]) E dX10_count_91 rfl (by decide) rfl ?_
  refine j_iload_n (pc := 92) rfl 2 rfl E dX10_count_92 ?_
  refine j_bipush (pc := 93) (v := 6) (by decide) E dX10_count_93 ?_
  refine j_icmp_ge (pc := 95) (tgt := 107) E dX10_count_95 (by decide) ?_ ?_
  · refine j_iload_n (pc := 107) rfl 2 rfl E dX10_count_107 ?_
    refine j_bipush (pc := 108) (v := 6) (by decide) E dX10_count_108 ?_
    refine j_icmp_ne (pc := 110) (tgt := 117) E dX10_count_110 (by decide) ?_ ?_
    · refine j_iload_n (pc := 113) rfl 3 rfl E dX10_count_113 ?_
      refine j_goto (pc := 114) (tgt := 131) E dX10_count_114 (by decide) ?_
      exact j_iret (pc := 131) E R dX10_count_131
    · refine j_iload_n (pc := 117) rfl 2 rfl E dX10_count_117 ?_
      refine j_bipush (pc := 118) (v := 7) (by decide) E dX10_count_118 ?_
      refine j_icmp_ne (pc := 120) (tgt := 130) E dX10_count_120 (by decide) ?_ ?_
      · refine j_aload_n (pc := 123) rfl 1 rfl E dX10_count_123 ?_
        refine j_get (pc := 124) E xuX10 rfl s_85 (k := 6) (by decide) q_1088 rfl (xflds_int rfl) dX10_count_124 ?_
        refine j_goto (pc := 127) (tgt := 131) E dX10_count_127 (by decide) ?_
        exact j_iret (pc := 131) E R dX10_count_131
      · refine j_iload_n (pc := 130) rfl 0 rfl E dX10_count_130 ?_
        exact j_iret (pc := 131) E R dX10_count_131
  · refine j_aload_n (pc := 98) rfl 1 rfl E dX10_count_98 ?_
    refine j_get (pc := 99) E xuX10 rfl s_85 (k := 0) (by decide) q_1082 rfl (xflds_ref rfl) dX10_count_99 ?_
    refine j_iload_n (pc := 102) rfl 2 rfl E dX10_count_102 ?_
    refine j_iald (pc := 103) E s_86 dX10_count_103 ?_
    refine j_goto (pc := 104) (tgt := 131) E dX10_count_104 (by decide) ?_
    exact j_iret (pc := 131) E R dX10_count_131
def fX10_count (N : Nat) (σ : XS) (p1 : Int32) : Option XO := xB (fX10_in N σ p1.toInt64 0 10) (fun y1 m2 => if y1 = 0 then some ((-3), m2) else fX10_count_L19 N p1 (fun x5 m6 => if p1 = 8 then fX10_count_J91 N p1 x5 (m6 85 8) m6 else if p1 = 9 then fX10_count_J91 N p1 x5 (m6 85 2) m6 else fX10_count_J91 N p1 x5 (m6 85 11) m6) N 0 0 m2)
set_option maxRecDepth 100000 in
set_option maxHeartbeats 4000000 in
theorem kX10_count {N : Nat} {σ : XS} {p1 : Int32} {o : XO} (h : fX10_count N σ p1 = some o) : CtI yX10_count cX10_count 4 (some .int) 1 25 (fun Am ad => [.ref (Am 85), .int p1]) σ o := by
  refine ct_int (by decide) (fun _ _ => Nat.le_of_ble_eq_true rfl) (fun X E R => ?_)
  rw [← h]
  show JF X o 4 0 [(0, .ref (xa X 85)), (1, .int p1)] [] σ (xB (fX10_in N σ p1.toInt64 0 10) (fun y1 m2 => if y1 = 0 then some ((-3), m2) else fX10_count_L19 N p1 (fun x5 m6 => if p1 = 8 then fX10_count_J91 N p1 x5 (m6 85 8) m6 else if p1 = 9 then fX10_count_J91 N p1 x5 (m6 85 2) m6 else fX10_count_J91 N p1 x5 (m6 85 11) m6) N 0 0 m2))
  refine j_iload_n (pc := 0) rfl 1 rfl E dX10_count_0 ?_
  refine j_i2l (pc := 1) E dX10_count_1 ?_
  refine j_lconst (pc := 2) (v := 0) (by decide) E dX10_count_2 ?_
  refine j_ldc2 (pc := 3) (v := 10) E q_1454 dX10_count_3 ?_
  refine JF.xb (fun y1 m2 h3 => ?_)
  refine j_callSi (pc := 6) (st := []) E (kX10_in h3) mv_X10_in q_1079 [.long p1.toInt64, .long 0, .long 10] rfl rfl rfl (by decide) (Nat.le_of_ble_eq_true rfl) dX10_count_6 ?_
  refine j_if_ne (pc := 9) (tgt := 15) E dX10_count_9 (by decide) ?_ ?_
  · refine j_bipush (pc := 12) (v := (-3)) (by decide) E dX10_count_12 ?_
    exact j_iret (pc := 14) E R dX10_count_14
  · refine j_iconst (pc := 15) (v := 0) (by decide) E dX10_count_15 ?_
    refine j_istore_n (pc := 16) (lv1 := [(2, .int 0), (0, .ref (xa X 85)), (1, .int p1)]) E dX10_count_16 rfl (by decide) rfl ?_
    refine j_iconst (pc := 17) (v := 0) (by decide) E dX10_count_17 ?_
    refine j_istore_n (pc := 18) (lv1 := [(3, .int 0), (2, .int 0), (0, .ref (xa X 85)), (1, .int p1)]) E dX10_count_18 rfl (by decide) rfl ?_
    refine JF.sub [2, 3, 1, 0] rfl ?_
    refine lX10_count_L19 N p1 _ E R (fun x5 m6 => ?_) N 0 0 m2
    · refine j_iload_n (pc := 61) rfl 1 rfl E dX10_count_61 ?_
      refine j_bipush (pc := 62) (v := 8) (by decide) E dX10_count_62 ?_
      refine j_icmp_ne (pc := 64) (tgt := 74) E dX10_count_64 (by decide) ?_ ?_
      · refine j_aload_n (pc := 67) rfl 0 rfl E dX10_count_67 ?_
        refine j_get (pc := 68) E xuX10 rfl s_85 (k := 8) (by decide) q_1090 rfl (xflds_int rfl) dX10_count_68 ?_
        refine j_goto (pc := 71) (tgt := 91) E dX10_count_71 (by decide) ?_
        refine JF.sub [0, 1, 2] rfl ?_
        exact lX10_count_J91 N p1 x5 (m6 85 8) E R m6
      · refine j_iload_n (pc := 74) rfl 1 rfl E dX10_count_74 ?_
        refine j_bipush (pc := 75) (v := 9) (by decide) E dX10_count_75 ?_
        refine j_icmp_ne (pc := 77) (tgt := 87) E dX10_count_77 (by decide) ?_ ?_
        · refine j_aload_n (pc := 80) rfl 0 rfl E dX10_count_80 ?_
          refine j_get (pc := 81) E xuX10 rfl s_85 (k := 2) (by decide) q_1084 rfl (xflds_int rfl) dX10_count_81 ?_
          refine j_goto (pc := 84) (tgt := 91) E dX10_count_84 (by decide) ?_
          refine JF.sub [0, 1, 2] rfl ?_
          exact lX10_count_J91 N p1 x5 (m6 85 2) E R m6
        · refine j_aload_n (pc := 87) rfl 0 rfl E dX10_count_87 ?_
          refine j_get (pc := 88) E xuX10 rfl s_85 (k := 11) (by decide) q_1093 rfl (xflds_int rfl) dX10_count_88 ?_
          refine JF.sub [0, 1, 2] rfl ?_
          exact lX10_count_J91 N p1 x5 (m6 85 11) E R m6
