def fX10_does_J87 (N : Nat) (v1 : Int32) (v2 : Int32) (v4 : Int32) (v5 : Int32) (t0 : Int32) (t1 : Int32) (σ : XS) : Option XO := xLet (xUp σ 86 t1.toNatClampNeg t0) (fun m42 => gd (xin t1 98) (if v2 = 3 then xLet (xUp m42 86 (v5 + 3).toNatClampNeg v4) (fun m51 => gd (xin (v5 + 3) 98) (gd (xin 0 98) (xLet (xUp m51 86 (0 : Int32).toNatClampNeg ((m51 86 (0 : Int32).toNatClampNeg) + 1)) (fun m54 => gd (xin 0 98) (some (0, m54)))))) else gd (xin ((4 * v1) + 3) 56) (xLet (xUp m42 86 (v5 + 3).toNatClampNeg (m42 93 ((4 * v1) + 3).toNatClampNeg)) (fun m45 => gd (xin (v5 + 3) 98) (gd (xin 0 98) (xLet (xUp m45 86 (0 : Int32).toNatClampNeg ((m45 86 (0 : Int32).toNatClampNeg) + 1)) (fun m48 => gd (xin 0 98) (some (0, m48)))))))))
set_option maxRecDepth 100000 in
set_option maxHeartbeats 4000000 in
theorem lX10_does_J87 (N : Nat) (v1 : Int32) (v2 : Int32) (v4 : Int32) (v5 : Int32) (t0 : Int32) (t1 : Int32) {X : XC} {o : XO} (E : XE X cX10_does RX10 6 2 46) (R : XV X o cX10_does) (σ : XS) : JF X o 6 87 [(0, .ref (xa X 85)), (1, .int v1), (2, .int v2), (4, .int v4), (5, .int v5)] [.int t0, .int t1, .ref (xa X 86)] σ (fX10_does_J87 N v1 v2 v4 v5 t0 t1 σ) := by
  show JF X o 6 87 [(0, .ref (xa X 85)), (1, .int v1), (2, .int v2), (4, .int v4), (5, .int v5)] [.int t0, .int t1, .ref (xa X 86)] σ (xLet (xUp σ 86 t1.toNatClampNeg t0) (fun m42 => gd (xin t1 98) (if v2 = 3 then xLet (xUp m42 86 (v5 + 3).toNatClampNeg v4) (fun m51 => gd (xin (v5 + 3) 98) (gd (xin 0 98) (xLet (xUp m51 86 (0 : Int32).toNatClampNeg ((m51 86 (0 : Int32).toNatClampNeg) + 1)) (fun m54 => gd (xin 0 98) (some (0, m54)))))) else gd (xin ((4 * v1) + 3) 56) (xLet (xUp m42 86 (v5 + 3).toNatClampNeg (m42 93 ((4 * v1) + 3).toNatClampNeg)) (fun m45 => gd (xin (v5 + 3) 98) (gd (xin 0 98) (xLet (xUp m45 86 (0 : Int32).toNatClampNeg ((m45 86 (0 : Int32).toNatClampNeg) + 1)) (fun m48 => gd (xin 0 98) (some (0, m48))))))))))
  refine JF.xlet (fun m42 e43 => ?_)
  refine j_iast (pc := 87) E s_86 dX10_does_87 e43 ?_
  refine j_aload_n (pc := 88) rfl 0 rfl E dX10_does_88 ?_
  refine j_get (pc := 89) E xuX10 rfl s_85 (k := 0) (by decide) q_1082 rfl (xflds_ref rfl) dX10_does_89 ?_
  refine j_iload (pc := 92) 4 rfl E dX10_does_92 ?_
  refine j_iconst (pc := 94) (v := 3) (by decide) E dX10_does_94 ?_
  refine j_iadd (pc := 95) E dX10_does_95 ?_
  refine j_iload_n (pc := 96) rfl 2 rfl E dX10_does_96 ?_
  refine j_iconst (pc := 97) (v := 3) (by decide) E dX10_does_97 ?_
  refine j_icmp_ne (pc := 98) (tgt := 106) E dX10_does_98 (by decide) ?_ ?_
  · refine j_iload (pc := 101) 3 rfl E dX10_does_101 ?_
    refine j_goto (pc := 103) (tgt := 116) E dX10_does_103 (by decide) ?_
    refine JF.xlet (fun m51 e52 => ?_)
    refine j_iast (pc := 116) E s_86 dX10_does_116 e52 ?_
    refine j_aload_n (pc := 117) rfl 0 rfl E dX10_does_117 ?_
    refine j_get (pc := 118) E xuX10 rfl s_85 (k := 0) (by decide) q_1082 rfl (xflds_ref rfl) dX10_does_118 ?_
    refine j_iconst (pc := 121) (v := 0) (by decide) E dX10_does_121 ?_
    refine j_dup2 (pc := 122) rfl rfl E dX10_does_122 ?_
    refine j_iald (pc := 123) E s_86 dX10_does_123 ?_
    refine j_iconst (pc := 124) (v := 1) (by decide) E dX10_does_124 ?_
    refine j_iadd (pc := 125) E dX10_does_125 ?_
    refine JF.xlet (fun m54 e55 => ?_)
    refine j_iast (pc := 126) E s_86 dX10_does_126 e55 ?_
    refine j_goto (pc := 127) (tgt := 289) E dX10_does_127 (by decide) ?_
    exact j_vret (pc := 289) E R dX10_does_289
  · refine j_aload_n (pc := 106) rfl 0 rfl E dX10_does_106 ?_
    refine j_get (pc := 107) E xuX10 rfl s_85 (k := 16) (by decide) q_1098 rfl (xflds_ref rfl) dX10_does_107 ?_
    refine j_iconst (pc := 110) (v := 4) (by decide) E dX10_does_110 ?_
    refine j_iload_n (pc := 111) rfl 1 rfl E dX10_does_111 ?_
    refine j_imul (pc := 112) E dX10_does_112 ?_
    refine j_iconst (pc := 113) (v := 3) (by decide) E dX10_does_113 ?_
    refine j_iadd (pc := 114) E dX10_does_114 ?_
    refine j_iald (pc := 115) E s_93 dX10_does_115 ?_
    refine JF.xlet (fun m45 e46 => ?_)
    refine j_iast (pc := 116) E s_86 dX10_does_116 e46 ?_
    refine j_aload_n (pc := 117) rfl 0 rfl E dX10_does_117 ?_
    refine j_get (pc := 118) E xuX10 rfl s_85 (k := 0) (by decide) q_1082 rfl (xflds_ref rfl) dX10_does_118 ?_
    refine j_iconst (pc := 121) (v := 0) (by decide) E dX10_does_121 ?_
    refine j_dup2 (pc := 122) rfl rfl E dX10_does_122 ?_
    refine j_iald (pc := 123) E s_86 dX10_does_123 ?_
    refine j_iconst (pc := 124) (v := 1) (by decide) E dX10_does_124 ?_
    refine j_iadd (pc := 125) E dX10_does_125 ?_
    refine JF.xlet (fun m48 e49 => ?_)
    refine j_iast (pc := 126) E s_86 dX10_does_126 e49 ?_
    refine j_goto (pc := 127) (tgt := 289) E dX10_does_127 (by decide) ?_
    exact j_vret (pc := 289) E R dX10_does_289
def fX10_does (N : Nat) (σ : XS) (p1 : Int32) : Option XO := gd (xin (4 * p1) 56) (xLetI (σ 93 (4 * p1).toNatClampNeg) (fun x1 => gd (xin ((4 * p1) + 1) 56) (xLetI (σ 93 ((4 * p1) + 1).toNatClampNeg) (fun x2 => gd (xin ((4 * p1) + 2) 56) (xLetI (σ 93 ((4 * p1) + 2).toNatClampNeg) (fun x3 => if 4 ≤ x1 then if x1 = 4 then xLet (xUp σ 86 (42 + x2).toNatClampNeg x3) (fun m32 => gd (xin (42 + x2) 98) (some (0, m32))) else if x1 = 5 then gd (xin 1 98) (xLetI (46 + (3 * (σ 86 (1 : Int32).toNatClampNeg))) (fun x19 => xLet (xUp σ 86 x19.toNatClampNeg x2) (fun m20 => gd (xin x19 98) (xLet (xUp m20 86 (x19 + 1).toNatClampNeg x3) (fun m23 => gd (xin (x19 + 1) 98) (xLet (xUp m23 86 (x19 + 2).toNatClampNeg 0) (fun m26 => gd (xin (x19 + 2) 98) (gd (xin 1 98) (xLet (xUp m26 86 (1 : Int32).toNatClampNeg ((m26 86 (1 : Int32).toNatClampNeg) + 1)) (fun m29 => gd (xin 1 98) (some (0, m29)))))))))))) else if 9 ≤ x1 then if 12 ≤ x1 then if x1 = 12 then xLet (xUp σ 86 (73 + x2).toNatClampNeg x3) (fun m7 => gd (xin (73 + x2) 98) (some (0, m7))) else xB (fX10_empties N σ) (fun _ m5 => some (0, m5)) else xLet (xUp σ 86 (3 : Int32).toNatClampNeg (x1 - 9)) (fun m10 => gd (xin 3 98) (some (0, m10))) else gd (xin 2 98) (xLet (xUp σ 86 (64 + (σ 86 (2 : Int32).toNatClampNeg)).toNatClampNeg (x1 - 6)) (fun m13 => gd (xin (64 + (σ 86 (2 : Int32).toNatClampNeg)) 98) (gd (xin 2 98) (xLet (xUp m13 86 (2 : Int32).toNatClampNeg ((m13 86 (2 : Int32).toNatClampNeg) + 1)) (fun m16 => gd (xin 2 98) (some (0, m16))))))) else gd (xin 0 98) (xLetI (6 + (4 * (σ 86 (0 : Int32).toNatClampNeg))) (fun x35 => xLet (xUp σ 86 x35.toNatClampNeg x1) (fun m36 => gd (xin x35 98) (xLet (xUp m36 86 (x35 + 1).toNatClampNeg x2) (fun m39 => gd (xin (x35 + 1) 98) (if x1 = 3 then fX10_does_J87 N p1 x1 x3 x35 1 (x35 + 2) m39 else fX10_does_J87 N p1 x1 x3 x35 x3 (x35 + 2) m39))))))))))))
set_option maxRecDepth 100000 in
set_option maxHeartbeats 4000000 in
theorem kX10_does {N : Nat} {σ : XS} {p1 : Int32} {o : XO} (h : fX10_does N σ p1 = some o) : CtV yX10_does cX10_does 6 none 2 46 (fun Am ad => [.ref (Am 85), .int p1]) σ o := by
  refine ct_void (by decide) (fun _ _ => Nat.le_of_ble_eq_true rfl) (fun X E R => ?_)
  rw [← h]
  show JF X o 6 0 [(0, .ref (xa X 85)), (1, .int p1)] [] σ (gd (xin (4 * p1) 56) (xLetI (σ 93 (4 * p1).toNatClampNeg) (fun x1 => gd (xin ((4 * p1) + 1) 56) (xLetI (σ 93 ((4 * p1) + 1).toNatClampNeg) (fun x2 => gd (xin ((4 * p1) + 2) 56) (xLetI (σ 93 ((4 * p1) + 2).toNatClampNeg) (fun x3 => if 4 ≤ x1 then if x1 = 4 then xLet (xUp σ 86 (42 + x2).toNatClampNeg x3) (fun m32 => gd (xin (42 + x2) 98) (some (0, m32))) else if x1 = 5 then gd (xin 1 98) (xLetI (46 + (3 * (σ 86 (1 : Int32).toNatClampNeg))) (fun x19 => xLet (xUp σ 86 x19.toNatClampNeg x2) (fun m20 => gd (xin x19 98) (xLet (xUp m20 86 (x19 + 1).toNatClampNeg x3) (fun m23 => gd (xin (x19 + 1) 98) (xLet (xUp m23 86 (x19 + 2).toNatClampNeg 0) (fun m26 => gd (xin (x19 + 2) 98) (gd (xin 1 98) (xLet (xUp m26 86 (1 : Int32).toNatClampNeg ((m26 86 (1 : Int32).toNatClampNeg) + 1)) (fun m29 => gd (xin 1 98) (some (0, m29)))))))))))) else if 9 ≤ x1 then if 12 ≤ x1 then if x1 = 12 then xLet (xUp σ 86 (73 + x2).toNatClampNeg x3) (fun m7 => gd (xin (73 + x2) 98) (some (0, m7))) else xB (fX10_empties N σ) (fun _ m5 => some (0, m5)) else xLet (xUp σ 86 (3 : Int32).toNatClampNeg (x1 - 9)) (fun m10 => gd (xin 3 98) (some (0, m10))) else gd (xin 2 98) (xLet (xUp σ 86 (64 + (σ 86 (2 : Int32).toNatClampNeg)).toNatClampNeg (x1 - 6)) (fun m13 => gd (xin (64 + (σ 86 (2 : Int32).toNatClampNeg)) 98) (gd (xin 2 98) (xLet (xUp m13 86 (2 : Int32).toNatClampNeg ((m13 86 (2 : Int32).toNatClampNeg) + 1)) (fun m16 => gd (xin 2 98) (some (0, m16))))))) else gd (xin 0 98) (xLetI (6 + (4 * (σ 86 (0 : Int32).toNatClampNeg))) (fun x35 => xLet (xUp σ 86 x35.toNatClampNeg x1) (fun m36 => gd (xin x35 98) (xLet (xUp m36 86 (x35 + 1).toNatClampNeg x2) (fun m39 => gd (xin (x35 + 1) 98) (if x1 = 3 then fX10_does_J87 N p1 x1 x3 x35 1 (x35 + 2) m39 else fX10_does_J87 N p1 x1 x3 x35 x3 (x35 + 2) m39)))))))))))))
  refine j_aload_n (pc := 0) rfl 0 rfl E dX10_does_0 ?_
  refine j_get (pc := 1) E xuX10 rfl s_85 (k := 16) (by decide) q_1098 rfl (xflds_ref rfl) dX10_does_1 ?_
  refine j_iconst (pc := 4) (v := 4) (by decide) E dX10_does_4 ?_
  refine j_iload_n (pc := 5) rfl 1 rfl E dX10_does_5 ?_
  refine j_imul (pc := 6) E dX10_does_6 ?_
  refine j_iald (pc := 7) E s_93 dX10_does_7 ?_
  refine JF.xletI (fun x1 => ?_)
  refine j_istore_n (pc := 8) (lv1 := [(2, .int x1), (0, .ref (xa X 85)), (1, .int p1)]) E dX10_does_8 rfl (by decide) rfl ?_
  refine j_aload_n (pc := 9) rfl 1 rfl E dX10_does_9 ?_
  refine j_get (pc := 10) E xuX10 rfl s_85 (k := 16) (by decide) q_1098 rfl (xflds_ref rfl) dX10_does_10 ?_
  refine j_iconst (pc := 13) (v := 4) (by decide) E dX10_does_13 ?_
  refine j_iload_n (pc := 14) rfl 2 rfl E dX10_does_14 ?_
  refine j_imul (pc := 15) E dX10_does_15 ?_
  refine j_iconst (pc := 16) (v := 1) (by decide) E dX10_does_16 ?_
  refine j_iadd (pc := 17) E dX10_does_17 ?_
  refine j_iald (pc := 18) E s_93 dX10_does_18 ?_
  refine JF.xletI (fun x2 => ?_)
  refine j_istore_n (pc := 19) (lv1 := [(3, .int x2), (2, .int x1), (0, .ref (xa X 85)), (1, .int p1)]) E dX10_does_19 rfl (by decide) rfl ?_
  refine j_aload_n (pc := 20) rfl 2 rfl E dX10_does_20 ?_
  refine j_get (pc := 21) E xuX10 rfl s_85 (k := 16) (by decide) q_1098 rfl (xflds_ref rfl) dX10_does_21 ?_
  refine j_iconst (pc := 24) (v := 4) (by decide) E dX10_does_24 ?_
  refine j_iload_n (pc := 25) rfl 3 rfl E dX10_does_25 ?_
  refine j_imul (pc := 26) E dX10_does_26 ?_
  refine j_iconst (pc := 27) (v := 2) (by decide) E dX10_does_27 ?_
  refine j_iadd (pc := 28) E dX10_does_28 ?_
  refine j_iald (pc := 29) E s_93 dX10_does_29 ?_
  refine JF.xletI (fun x3 => ?_)
  refine j_istore (pc := 30) (lv1 := [(4, .int x3), (3, .int x2), (2, .int x1), (0, .ref (xa X 85)), (1, .int p1)]) E dX10_does_30 (by decide) rfl ?_
  refine j_iload_n (pc := 32) rfl 2 rfl E dX10_does_32 ?_
  refine j_iconst (pc := 33) (v := 4) (by decide) E dX10_does_33 ?_
  refine j_icmp_ge (pc := 34) (tgt := 130) E dX10_does_34 (by decide) ?_ ?_
  · refine j_iload_n (pc := 130) rfl 2 rfl E dX10_does_130 ?_
    refine j_iconst (pc := 131) (v := 4) (by decide) E dX10_does_131 ?_
    refine j_icmp_ne (pc := 132) (tgt := 149) E dX10_does_132 (by decide) ?_ ?_
    · refine j_aload_n (pc := 135) rfl 3 rfl E dX10_does_135 ?_
      refine j_get (pc := 136) E xuX10 rfl s_85 (k := 0) (by decide) q_1082 rfl (xflds_ref rfl) dX10_does_136 ?_
      refine j_bipush (pc := 139) (v := 42) (by decide) E dX10_does_139 ?_
      refine j_iload_n (pc := 141) rfl 1 rfl E dX10_does_141 ?_
      refine j_iadd (pc := 142) E dX10_does_142 ?_
      refine j_iload (pc := 143) 0 rfl E dX10_does_143 ?_
      refine JF.xlet (fun m32 e33 => ?_)
      refine j_iast (pc := 145) E s_86 dX10_does_145 e33 ?_
      refine j_goto (pc := 146) (tgt := 289) E dX10_does_146 (by decide) ?_
      exact j_vret (pc := 289) E R dX10_does_289
    · refine j_iload_n (pc := 149) rfl 2 rfl E dX10_does_149 ?_
      refine j_iconst (pc := 150) (v := 5) (by decide) E dX10_does_150 ?_
      refine j_icmp_ne (pc := 151) (tgt := 209) E dX10_does_151 (by decide) ?_ ?_
      · refine j_bipush (pc := 154) (v := 46) (by decide) E dX10_does_154 ?_
        refine j_iconst (pc := 156) (v := 3) (by decide) E dX10_does_156 ?_
        refine j_aload_n (pc := 157) rfl 3 rfl E dX10_does_157 ?_
        refine j_get (pc := 158) E xuX10 rfl s_85 (k := 0) (by decide) q_1082 rfl (xflds_ref rfl) dX10_does_158 ?_
        refine j_iconst (pc := 161) (v := 1) (by decide) E dX10_does_161 ?_
        refine j_iald (pc := 162) E s_86 dX10_does_162 ?_
        refine j_imul (pc := 163) E dX10_does_163 ?_
        refine j_iadd (pc := 164) E dX10_does_164 ?_
        refine JF.xletI (fun x19 => ?_)
        refine j_istore (pc := 165) (lv1 := [(5, .int x19), (4, .int x3), (3, .int x2), (2, .int x1), (0, .ref (xa X 85)), (1, .int p1)]) E dX10_does_165 (by decide) rfl ?_
        refine j_aload_n (pc := 167) rfl 4 rfl E dX10_does_167 ?_
        refine j_get (pc := 168) E xuX10 rfl s_85 (k := 0) (by decide) q_1082 rfl (xflds_ref rfl) dX10_does_168 ?_
        refine j_iload (pc := 171) 0 rfl E dX10_does_171 ?_
        refine j_iload_n (pc := 173) rfl 2 rfl E dX10_does_173 ?_
        refine JF.xlet (fun m20 e21 => ?_)
        refine j_iast (pc := 174) E s_86 dX10_does_174 e21 ?_
        refine j_aload_n (pc := 175) rfl 4 rfl E dX10_does_175 ?_
        refine j_get (pc := 176) E xuX10 rfl s_85 (k := 0) (by decide) q_1082 rfl (xflds_ref rfl) dX10_does_176 ?_
        refine j_iload (pc := 179) 0 rfl E dX10_does_179 ?_
        refine j_iconst (pc := 181) (v := 1) (by decide) E dX10_does_181 ?_
        refine j_iadd (pc := 182) E dX10_does_182 ?_
        refine j_iload (pc := 183) 1 rfl E dX10_does_183 ?_
        refine JF.xlet (fun m23 e24 => ?_)
        refine j_iast (pc := 185) E s_86 dX10_does_185 e24 ?_
        refine j_aload_n (pc := 186) rfl 4 rfl E dX10_does_186 ?_
        refine j_get (pc := 187) E xuX10 rfl s_85 (k := 0) (by decide) q_1082 rfl (xflds_ref rfl) dX10_does_187 ?_
        refine j_iload (pc := 190) 0 rfl E dX10_does_190 ?_
        refine j_iconst (pc := 192) (v := 2) (by decide) E dX10_does_192 ?_
        refine j_iadd (pc := 193) E dX10_does_193 ?_
        refine j_iconst (pc := 194) (v := 0) (by decide) E dX10_does_194 ?_
        refine JF.xlet (fun m26 e27 => ?_)
        refine j_iast (pc := 195) E s_86 dX10_does_195 e27 ?_
        refine j_aload_n (pc := 196) rfl 4 rfl E dX10_does_196 ?_
        refine j_get (pc := 197) E xuX10 rfl s_85 (k := 0) (by decide) q_1082 rfl (xflds_ref rfl) dX10_does_197 ?_
        refine j_iconst (pc := 200) (v := 1) (by decide) E dX10_does_200 ?_
        refine j_dup2 (pc := 201) rfl rfl E dX10_does_201 ?_
        refine j_iald (pc := 202) E s_86 dX10_does_202 ?_
        refine j_iconst (pc := 203) (v := 1) (by decide) E dX10_does_203 ?_
        refine j_iadd (pc := 204) E dX10_does_204 ?_
        refine JF.xlet (fun m29 e30 => ?_)
        refine j_iast (pc := 205) E s_86 dX10_does_205 e30 ?_
        refine j_goto (pc := 206) (tgt := 289) E dX10_does_206 (by decide) ?_
        exact j_vret (pc := 289) E R dX10_does_289
      · refine j_iload_n (pc := 209) rfl 2 rfl E dX10_does_209 ?_
        refine j_bipush (pc := 210) (v := 9) (by decide) E dX10_does_210 ?_
        refine j_icmp_ge (pc := 212) (tgt := 246) E dX10_does_212 (by decide) ?_ ?_
        · refine j_iload_n (pc := 246) rfl 2 rfl E dX10_does_246 ?_
          refine j_bipush (pc := 247) (v := 12) (by decide) E dX10_does_247 ?_
          refine j_icmp_ge (pc := 249) (tgt := 265) E dX10_does_249 (by decide) ?_ ?_
          · refine j_iload_n (pc := 265) rfl 2 rfl E dX10_does_265 ?_
            refine j_bipush (pc := 266) (v := 12) (by decide) E dX10_does_266 ?_
            refine j_icmp_ne (pc := 268) (tgt := 285) E dX10_does_268 (by decide) ?_ ?_
            · refine j_aload_n (pc := 271) rfl 3 rfl E dX10_does_271 ?_
              refine j_get (pc := 272) E xuX10 rfl s_85 (k := 0) (by decide) q_1082 rfl (xflds_ref rfl) dX10_does_272 ?_
              refine j_bipush (pc := 275) (v := 73) (by decide) E dX10_does_275 ?_
              refine j_iload_n (pc := 277) rfl 1 rfl E dX10_does_277 ?_
              refine j_iadd (pc := 278) E dX10_does_278 ?_
              refine j_iload (pc := 279) 0 rfl E dX10_does_279 ?_
              refine JF.xlet (fun m7 e8 => ?_)
              refine j_iast (pc := 281) E s_86 dX10_does_281 e8 ?_
              refine j_goto (pc := 282) (tgt := 289) E dX10_does_282 (by decide) ?_
              exact j_vret (pc := 289) E R dX10_does_289
            · refine j_aload_n (pc := 285) rfl 3 rfl E dX10_does_285 ?_
              refine JF.xb (fun y4 m5 h6 => ?_)
              refine j_callVv (pc := 286) (st := []) E (kX10_empties h6) mv_X10_empties rfl s_85 q_1073 [] rfl rfl rfl (by decide) (Nat.le_of_ble_eq_true rfl) dX10_does_286 ?_
              exact j_vret (pc := 289) E R dX10_does_289
          · refine j_aload_n (pc := 252) rfl 3 rfl E dX10_does_252 ?_
            refine j_get (pc := 253) E xuX10 rfl s_85 (k := 0) (by decide) q_1082 rfl (xflds_ref rfl) dX10_does_253 ?_
            refine j_iconst (pc := 256) (v := 3) (by decide) E dX10_does_256 ?_
            refine j_iload_n (pc := 257) rfl 2 rfl E dX10_does_257 ?_
            refine j_bipush (pc := 258) (v := 9) (by decide) E dX10_does_258 ?_
            refine j_isub (pc := 260) E dX10_does_260 ?_
            refine JF.xlet (fun m10 e11 => ?_)
            refine j_iast (pc := 261) E s_86 dX10_does_261 e11 ?_
            refine j_goto (pc := 262) (tgt := 289) E dX10_does_262 (by decide) ?_
            exact j_vret (pc := 289) E R dX10_does_289
        · refine j_aload_n (pc := 215) rfl 3 rfl E dX10_does_215 ?_
          refine j_get (pc := 216) E xuX10 rfl s_85 (k := 0) (by decide) q_1082 rfl (xflds_ref rfl) dX10_does_216 ?_
          refine j_bipush (pc := 219) (v := 64) (by decide) E dX10_does_219 ?_
          refine j_aload_n (pc := 221) rfl 3 rfl E dX10_does_221 ?_
          refine j_get (pc := 222) E xuX10 rfl s_85 (k := 0) (by decide) q_1082 rfl (xflds_ref rfl) dX10_does_222 ?_
          refine j_iconst (pc := 225) (v := 2) (by decide) E dX10_does_225 ?_
          refine j_iald (pc := 226) E s_86 dX10_does_226 ?_
          refine j_iadd (pc := 227) E dX10_does_227 ?_
          refine j_iload_n (pc := 228) rfl 2 rfl E dX10_does_228 ?_
          refine j_bipush (pc := 229) (v := 6) (by decide) E dX10_does_229 ?_
          refine j_isub (pc := 231) E dX10_does_231 ?_
          refine JF.xlet (fun m13 e14 => ?_)
          refine j_iast (pc := 232) E s_86 dX10_does_232 e14 ?_
          refine j_aload_n (pc := 233) rfl 3 rfl E dX10_does_233 ?_
          refine j_get (pc := 234) E xuX10 rfl s_85 (k := 0) (by decide) q_1082 rfl (xflds_ref rfl) dX10_does_234 ?_
          refine j_iconst (pc := 237) (v := 2) (by decide) E dX10_does_237 ?_
          refine j_dup2 (pc := 238) rfl rfl E dX10_does_238 ?_
          refine j_iald (pc := 239) E s_86 dX10_does_239 ?_
          refine j_iconst (pc := 240) (v := 1) (by decide) E dX10_does_240 ?_
          refine j_iadd (pc := 241) E dX10_does_241 ?_
          refine JF.xlet (fun m16 e17 => ?_)
          refine j_iast (pc := 242) E s_86 dX10_does_242 e17 ?_
          refine j_goto (pc := 243) (tgt := 289) E dX10_does_243 (by decide) ?_
          exact j_vret (pc := 289) E R dX10_does_289
  · refine j_bipush (pc := 37) (v := 6) (by decide) E dX10_does_37 ?_
    refine j_iconst (pc := 39) (v := 4) (by decide) E dX10_does_39 ?_
    refine j_aload_n (pc := 40) rfl 3 rfl E dX10_does_40 ?_
    refine j_get (pc := 41) E xuX10 rfl s_85 (k := 0) (by decide) q_1082 rfl (xflds_ref rfl) dX10_does_41 ?_
    refine j_iconst (pc := 44) (v := 0) (by decide) E dX10_does_44 ?_
    refine j_iald (pc := 45) E s_86 dX10_does_45 ?_
    refine j_imul (pc := 46) E dX10_does_46 ?_
    refine j_iadd (pc := 47) E dX10_does_47 ?_
    refine JF.xletI (fun x35 => ?_)
    refine j_istore (pc := 48) (lv1 := [(5, .int x35), (4, .int x3), (3, .int x2), (2, .int x1), (0, .ref (xa X 85)), (1, .int p1)]) E dX10_does_48 (by decide) rfl ?_
    refine j_aload_n (pc := 50) rfl 4 rfl E dX10_does_50 ?_
    refine j_get (pc := 51) E xuX10 rfl s_85 (k := 0) (by decide) q_1082 rfl (xflds_ref rfl) dX10_does_51 ?_
    refine j_iload (pc := 54) 0 rfl E dX10_does_54 ?_
    refine j_iload_n (pc := 56) rfl 3 rfl E dX10_does_56 ?_
    refine JF.xlet (fun m36 e37 => ?_)
    refine j_iast (pc := 57) E s_86 dX10_does_57 e37 ?_
    refine j_aload_n (pc := 58) rfl 4 rfl E dX10_does_58 ?_
    refine j_get (pc := 59) E xuX10 rfl s_85 (k := 0) (by decide) q_1082 rfl (xflds_ref rfl) dX10_does_59 ?_
    refine j_iload (pc := 62) 0 rfl E dX10_does_62 ?_
    refine j_iconst (pc := 64) (v := 1) (by decide) E dX10_does_64 ?_
    refine j_iadd (pc := 65) E dX10_does_65 ?_
    refine j_iload_n (pc := 66) rfl 2 rfl E dX10_does_66 ?_
    refine JF.xlet (fun m39 e40 => ?_)
    refine j_iast (pc := 67) E s_86 dX10_does_67 e40 ?_
    refine j_aload_n (pc := 68) rfl 4 rfl E dX10_does_68 ?_
    refine j_get (pc := 69) E xuX10 rfl s_85 (k := 0) (by decide) q_1082 rfl (xflds_ref rfl) dX10_does_69 ?_
    refine j_iload (pc := 72) 0 rfl E dX10_does_72 ?_
    refine j_iconst (pc := 74) (v := 2) (by decide) E dX10_does_74 ?_
    refine j_iadd (pc := 75) E dX10_does_75 ?_
    refine j_iload_n (pc := 76) rfl 3 rfl E dX10_does_76 ?_
    refine j_iconst (pc := 77) (v := 3) (by decide) E dX10_does_77 ?_
    refine j_icmp_ne (pc := 78) (tgt := 85) E dX10_does_78 (by decide) ?_ ?_
    · refine j_iconst (pc := 81) (v := 1) (by decide) E dX10_does_81 ?_
      refine j_goto (pc := 82) (tgt := 87) E dX10_does_82 (by decide) ?_
      refine JF.sub [4, 5, 3, 1, 0] rfl ?_
      exact lX10_does_J87 N p1 x1 x3 x35 1 (x35 + 2) E R m39
    · refine j_iload (pc := 85) 1 rfl E dX10_does_85 ?_
      refine JF.sub [4, 5, 3, 1, 0] rfl ?_
      exact lX10_does_J87 N p1 x1 x3 x35 x3 (x35 + 2) E R m39
def fX10_customs_L12 (N : Nat) (k31 : XS → Option XO) : Nat → Int32 → XS → Option XO
  | 0, _, _ => none
  | n + 1, v1, σ => if (σ 85 17) ≤ v1 then k31 σ else xB (fX10_does N σ v1) (fun _ m5 => fX10_customs_L12 N k31 n (v1 + 1) m5)
set_option maxRecDepth 100000 in
set_option maxHeartbeats 4000000 in
theorem lX10_customs_L12 (N : Nat) (k31 : XS → Option XO) {X : XC} {o : XO} (E : XE X cX10_customs RX10 2 4 93) (R : XI X o cX10_customs) (K31 : ∀ (σ : XS), JF X o 2 31 [(0, .ref (xa X 85))] [] σ (k31 σ)) : ∀ (n : Nat) (v1 : Int32) (σ : XS), JF X o 2 12 [(0, .ref (xa X 85)), (1, .int v1)] [] σ (fX10_customs_L12 N k31 n v1 σ) := by
  intro n
  induction n with
  | zero => intro v1 σ; exact JF.none
  | succ n ih =>
    intro v1 σ
    show JF X o 2 12 [(0, .ref (xa X 85)), (1, .int v1)] [] σ (if (σ 85 17) ≤ v1 then k31 σ else xB (fX10_does N σ v1) (fun _ m5 => fX10_customs_L12 N k31 n (v1 + 1) m5))
    refine j_iload_n (pc := 12) rfl 1 rfl E dX10_customs_12 ?_
    refine j_aload_n (pc := 13) rfl 0 rfl E dX10_customs_13 ?_
    refine j_get (pc := 14) E xuX10 rfl s_85 (k := 17) (by decide) q_1099 rfl (xflds_int rfl) dX10_customs_14 ?_
    refine j_icmp_ge (pc := 17) (tgt := 31) E dX10_customs_17 (by decide) ?_ ?_
    · refine JF.sub [0] rfl ?_
      exact K31  σ
    · refine j_aload_n (pc := 20) rfl 0 rfl E dX10_customs_20 ?_
      refine j_iload_n (pc := 21) rfl 1 rfl E dX10_customs_21 ?_
      refine JF.xb (fun y4 m5 h6 => ?_)
      refine j_callVv (pc := 22) (st := []) E (kX10_does h6) mv_X10_does rfl s_85 q_1225 [.int v1] rfl rfl rfl (by decide) (Nat.le_of_ble_eq_true rfl) dX10_customs_22 ?_
      refine j_iinc (pc := 25) (v := (v1 + 1)) (lv1 := [(1, .int (v1 + 1)), (0, .ref (xa X 85))]) E dX10_customs_25 1 rfl rfl (by decide) rfl ?_
      refine j_goto (pc := 28) (tgt := 12) E dX10_customs_28 (by decide) ?_
      refine JF.sub [1, 0] rfl ?_
      exact ih (v1 + 1) m5
def fX10_customs_L47 (N : Nat) (k73 : XS → Option XO) : Nat → Int32 → XS → Option XO
  | 0, _, _ => none
  | n + 1, v1, σ => if 6 ≤ v1 then k73 σ else xLet (xUp σ 86 ((46 + (3 * v1)) + 2).toNatClampNeg 0) (fun m14 => gd (xin ((46 + (3 * v1)) + 2) 98) (fX10_customs_L47 N k73 n (v1 + 1) m14))
set_option maxRecDepth 100000 in
set_option maxHeartbeats 4000000 in
theorem lX10_customs_L47 (N : Nat) (k73 : XS → Option XO) {X : XC} {o : XO} (E : XE X cX10_customs RX10 2 4 93) (R : XI X o cX10_customs) (K73 : ∀ (σ : XS), JF X o 2 73 [(0, .ref (xa X 85))] [] σ (k73 σ)) : ∀ (n : Nat) (v1 : Int32) (σ : XS), JF X o 2 47 [(0, .ref (xa X 85)), (1, .int v1)] [] σ (fX10_customs_L47 N k73 n v1 σ) := by
  intro n
  induction n with
  | zero => intro v1 σ; exact JF.none
  | succ n ih =>
    intro v1 σ
    show JF X o 2 47 [(0, .ref (xa X 85)), (1, .int v1)] [] σ (if 6 ≤ v1 then k73 σ else xLet (xUp σ 86 ((46 + (3 * v1)) + 2).toNatClampNeg 0) (fun m14 => gd (xin ((46 + (3 * v1)) + 2) 98) (fX10_customs_L47 N k73 n (v1 + 1) m14)))
    refine j_iload_n (pc := 47) rfl 1 rfl E dX10_customs_47 ?_
    refine j_bipush (pc := 48) (v := 6) (by decide) E dX10_customs_48 ?_
    refine j_icmp_ge (pc := 50) (tgt := 73) E dX10_customs_50 (by decide) ?_ ?_
    · refine JF.sub [0] rfl ?_
      exact K73  σ
    · refine j_aload_n (pc := 53) rfl 0 rfl E dX10_customs_53 ?_
      refine j_get (pc := 54) E xuX10 rfl s_85 (k := 0) (by decide) q_1082 rfl (xflds_ref rfl) dX10_customs_54 ?_
      refine j_bipush (pc := 57) (v := 46) (by decide) E dX10_customs_57 ?_
      refine j_iconst (pc := 59) (v := 3) (by decide) E dX10_customs_59 ?_
      refine j_iload_n (pc := 60) rfl 1 rfl E dX10_customs_60 ?_
      refine j_imul (pc := 61) E dX10_customs_61 ?_
      refine j_iadd (pc := 62) E dX10_customs_62 ?_
      refine j_iconst (pc := 63) (v := 2) (by decide) E dX10_customs_63 ?_
      refine j_iadd (pc := 64) E dX10_customs_64 ?_
      refine j_iconst (pc := 65) (v := 0) (by decide) E dX10_customs_65 ?_
      refine JF.xlet (fun m14 e15 => ?_)
      refine j_iast (pc := 66) E s_86 dX10_customs_66 e15 ?_
      refine j_iinc (pc := 67) (v := (v1 + 1)) (lv1 := [(1, .int (v1 + 1)), (0, .ref (xa X 85))]) E dX10_customs_67 1 rfl rfl (by decide) rfl ?_
      refine j_goto (pc := 70) (tgt := 47) E dX10_customs_70 (by decide) ?_
      refine JF.sub [1, 0] rfl ?_
      exact ih (v1 + 1) m14
def fX10_customs_L75 (N : Nat) (k97 : XS → Option XO) : Nat → Int32 → XS → Option XO
  | 0, _, _ => none
  | n + 1, v1, σ => if 6 ≤ v1 then k97 σ else xLet (xUp σ 86 (67 + v1).toNatClampNeg 0) (fun m18 => gd (xin (67 + v1) 98) (fX10_customs_L75 N k97 n (v1 + 1) m18))
set_option maxRecDepth 100000 in
set_option maxHeartbeats 4000000 in
theorem lX10_customs_L75 (N : Nat) (k97 : XS → Option XO) {X : XC} {o : XO} (E : XE X cX10_customs RX10 2 4 93) (R : XI X o cX10_customs) (K97 : ∀ (σ : XS), JF X o 2 97 [(0, .ref (xa X 85))] [] σ (k97 σ)) : ∀ (n : Nat) (v1 : Int32) (σ : XS), JF X o 2 75 [(0, .ref (xa X 85)), (1, .int v1)] [] σ (fX10_customs_L75 N k97 n v1 σ) := by
  intro n
  induction n with
  | zero => intro v1 σ; exact JF.none
  | succ n ih =>
    intro v1 σ
    show JF X o 2 75 [(0, .ref (xa X 85)), (1, .int v1)] [] σ (if 6 ≤ v1 then k97 σ else xLet (xUp σ 86 (67 + v1).toNatClampNeg 0) (fun m18 => gd (xin (67 + v1) 98) (fX10_customs_L75 N k97 n (v1 + 1) m18)))
    refine j_iload_n (pc := 75) rfl 1 rfl E dX10_customs_75 ?_
    refine j_bipush (pc := 76) (v := 6) (by decide) E dX10_customs_76 ?_
    refine j_icmp_ge (pc := 78) (tgt := 97) E dX10_customs_78 (by decide) ?_ ?_
    · refine JF.sub [0] rfl ?_
      exact K97  σ
    · refine j_aload_n (pc := 81) rfl 0 rfl E dX10_customs_81 ?_
      refine j_get (pc := 82) E xuX10 rfl s_85 (k := 0) (by decide) q_1082 rfl (xflds_ref rfl) dX10_customs_82 ?_
      refine j_bipush (pc := 85) (v := 67) (by decide) E dX10_customs_85 ?_
      refine j_iload_n (pc := 87) rfl 1 rfl E dX10_customs_87 ?_
      refine j_iadd (pc := 88) E dX10_customs_88 ?_
      refine j_iconst (pc := 89) (v := 0) (by decide) E dX10_customs_89 ?_
      refine JF.xlet (fun m18 e19 => ?_)
      refine j_iast (pc := 90) E s_86 dX10_customs_90 e19 ?_
      refine j_iinc (pc := 91) (v := (v1 + 1)) (lv1 := [(1, .int (v1 + 1)), (0, .ref (xa X 85))]) E dX10_customs_91 1 rfl rfl (by decide) rfl ?_
      refine j_goto (pc := 94) (tgt := 75) E dX10_customs_94 (by decide) ?_
      refine JF.sub [1, 0] rfl ?_
      exact ih (v1 + 1) m18
def fX10_customs (N : Nat) (σ : XS) : Option XO := xB (fX10_reads N σ) (fun y1 m2 => if y1 = 0 then some ((-4), m2) else fX10_customs_L12 N (fun m7 => xLet (xUp m7 86 (4 : Int32).toNatClampNeg 0) (fun m8 => gd (xin 4 98) (xLet (xUp m8 86 (5 : Int32).toNatClampNeg 0) (fun m11 => gd (xin 5 98) (fX10_customs_L47 N (fun m17 => fX10_customs_L75 N (fun m21 => xLet (xUp m21 85 11 0) (fun m22 => xLet (xUp m22 85 6 0) (fun m24 => xLet (xUp m24 85 8 0) (fun m26 => xLet (xUp m26 85 9 0) (fun m28 => xLet (xUp m28 89 (0 : Int32).toNatClampNeg (vp_nar .boolean 0)) (fun m30 => gd (xin 0 2) (xLet (xUp m30 89 (1 : Int32).toNatClampNeg (vp_nar .boolean 0)) (fun m33 => gd (xin 1 2) (xLet (xUp m33 85 2 0) (fun m36 => some ((m36 85 17), m36))))))))))) N 0 m17) N 0 m11))))) N 0 m2)
set_option maxRecDepth 100000 in
set_option maxHeartbeats 4000000 in
theorem kX10_customs {N : Nat} {σ : XS} {o : XO} (h : fX10_customs N σ = some o) : CtI yX10_customs cX10_customs 2 (some .int) 4 93 (fun Am ad => [.ref (Am 85)]) σ o := by
  refine ct_int (by decide) (fun _ _ => Nat.le_of_ble_eq_true rfl) (fun X E R => ?_)
  rw [← h]
  show JF X o 2 0 [(0, .ref (xa X 85))] [] σ (xB (fX10_reads N σ) (fun y1 m2 => if y1 = 0 then some ((-4), m2) else fX10_customs_L12 N (fun m7 => xLet (xUp m7 86 (4 : Int32).toNatClampNeg 0) (fun m8 => gd (xin 4 98) (xLet (xUp m8 86 (5 : Int32).toNatClampNeg 0) (fun m11 => gd (xin 5 98) (fX10_customs_L47 N (fun m17 => fX10_customs_L75 N (fun m21 => xLet (xUp m21 85 11 0) (fun m22 => xLet (xUp m22 85 6 0) (fun m24 => xLet (xUp m24 85 8 0) (fun m26 => xLet (xUp m26 85 9 0) (fun m28 => xLet (xUp m28 89 (0 : Int32).toNatClampNeg (vp_nar .boolean 0)) (fun m30 => gd (xin 0 2) (xLet (xUp m30 89 (1 : Int32).toNatClampNeg (vp_nar .boolean 0)) (fun m33 => gd (xin 1 2) (xLet (xUp m33 85 2 0) (fun m36 => some ((m36 85 17), m36))))))))))) N 0 m17) N 0 m11))))) N 0 m2))
  refine j_aload_n (pc := 0) rfl 0 rfl E dX10_customs_0 ?_
  refine JF.xb (fun y1 m2 h3 => ?_)
  refine j_callVi (pc := 1) (st := []) E (kX10_reads h3) mv_X10_reads rfl s_85 q_1177 [] rfl rfl rfl (by decide) (Nat.le_of_ble_eq_true rfl) dX10_customs_1 ?_
  refine j_if_ne (pc := 4) (tgt := 10) E dX10_customs_4 (by decide) ?_ ?_
  · refine j_bipush (pc := 7) (v := (-4)) (by decide) E dX10_customs_7 ?_
    exact j_iret (pc := 9) E R dX10_customs_9
  · refine j_iconst (pc := 10) (v := 0) (by decide) E dX10_customs_10 ?_
    refine j_istore_n (pc := 11) (lv1 := [(1, .int 0), (0, .ref (xa X 85))]) E dX10_customs_11 rfl (by decide) rfl ?_
    refine JF.sub [1, 0] rfl ?_
    refine lX10_customs_L12 N _ E R (fun m7 => ?_) N 0 m2
    · refine j_aload_n (pc := 31) rfl 0 rfl E dX10_customs_31 ?_
      refine j_get (pc := 32) E xuX10 rfl s_85 (k := 0) (by decide) q_1082 rfl (xflds_ref rfl) dX10_customs_32 ?_
      refine j_iconst (pc := 35) (v := 4) (by decide) E dX10_customs_35 ?_
      refine j_iconst (pc := 36) (v := 0) (by decide) E dX10_customs_36 ?_
      refine JF.xlet (fun m8 e9 => ?_)
      refine j_iast (pc := 37) E s_86 dX10_customs_37 e9 ?_
      refine j_aload_n (pc := 38) rfl 0 rfl E dX10_customs_38 ?_
      refine j_get (pc := 39) E xuX10 rfl s_85 (k := 0) (by decide) q_1082 rfl (xflds_ref rfl) dX10_customs_39 ?_
      refine j_iconst (pc := 42) (v := 5) (by decide) E dX10_customs_42 ?_
      refine j_iconst (pc := 43) (v := 0) (by decide) E dX10_customs_43 ?_
      refine JF.xlet (fun m11 e12 => ?_)
      refine j_iast (pc := 44) E s_86 dX10_customs_44 e12 ?_
      refine j_iconst (pc := 45) (v := 0) (by decide) E dX10_customs_45 ?_
      refine j_istore_n (pc := 46) (lv1 := [(1, .int 0), (0, .ref (xa X 85))]) E dX10_customs_46 rfl (by decide) rfl ?_
      refine JF.sub [1, 0] rfl ?_
      refine lX10_customs_L47 N _ E R (fun m17 => ?_) N 0 m11
      · refine j_iconst (pc := 73) (v := 0) (by decide) E dX10_customs_73 ?_
        refine j_istore_n (pc := 74) (lv1 := [(1, .int 0), (0, .ref (xa X 85))]) E dX10_customs_74 rfl (by decide) rfl ?_
        refine JF.sub [1, 0] rfl ?_
        refine lX10_customs_L75 N _ E R (fun m21 => ?_) N 0 m17
        · refine j_aload_n (pc := 97) rfl 0 rfl E dX10_customs_97 ?_
          refine j_iconst (pc := 98) (v := 0) (by decide) E dX10_customs_98 ?_
          refine JF.xlet (fun m22 e23 => ?_)
          refine j_put (pc := 99) E xuX10 tyX10 tyX10_ok nmX10 rfl s_85 rfl (k := 11) (by decide) q_1093 rfl rfl (ty := .int) (by decide +kernel) rfl rfl dX10_customs_99 e23 ?_
          refine j_aload_n (pc := 102) rfl 0 rfl E dX10_customs_102 ?_
          refine j_iconst (pc := 103) (v := 0) (by decide) E dX10_customs_103 ?_
          refine JF.xlet (fun m24 e25 => ?_)
          refine j_put (pc := 104) E xuX10 tyX10 tyX10_ok nmX10 rfl s_85 rfl (k := 6) (by decide) q_1088 rfl rfl (ty := .int) (by decide +kernel) rfl rfl dX10_customs_104 e25 ?_
          refine j_aload_n (pc := 107) rfl 0 rfl E dX10_customs_107 ?_
          refine j_iconst (pc := 108) (v := 0) (by decide) E dX10_customs_108 ?_
          refine JF.xlet (fun m26 e27 => ?_)
          refine j_put (pc := 109) E xuX10 tyX10 tyX10_ok nmX10 rfl s_85 rfl (k := 8) (by decide) q_1090 rfl rfl (ty := .int) (by decide +kernel) rfl rfl dX10_customs_109 e27 ?_
          refine j_aload_n (pc := 112) rfl 0 rfl E dX10_customs_112 ?_
          refine j_iconst (pc := 113) (v := 0) (by decide) E dX10_customs_113 ?_
          refine JF.xlet (fun m28 e29 => ?_)
          refine j_put (pc := 114) E xuX10 tyX10 tyX10_ok nmX10 rfl s_85 rfl (k := 9) (by decide) q_1091 rfl rfl (ty := .int) (by decide +kernel) rfl rfl dX10_customs_114 e29 ?_
          refine j_aload_n (pc := 117) rfl 0 rfl E dX10_customs_117 ?_
          refine j_get (pc := 118) E xuX10 rfl s_85 (k := 4) (by decide) q_1086 rfl (xflds_ref rfl) dX10_customs_118 ?_
          refine j_iconst (pc := 121) (v := 0) (by decide) E dX10_customs_121 ?_
          refine j_iconst (pc := 122) (v := 0) (by decide) E dX10_customs_122 ?_
          refine JF.xlet (fun m30 e31 => ?_)
          refine j_zast (pc := 123) E s_89 dX10_customs_123 e31 ?_
          refine j_aload_n (pc := 124) rfl 0 rfl E dX10_customs_124 ?_
          refine j_get (pc := 125) E xuX10 rfl s_85 (k := 4) (by decide) q_1086 rfl (xflds_ref rfl) dX10_customs_125 ?_
          refine j_iconst (pc := 128) (v := 1) (by decide) E dX10_customs_128 ?_
          refine j_iconst (pc := 129) (v := 0) (by decide) E dX10_customs_129 ?_
          refine JF.xlet (fun m33 e34 => ?_)
          refine j_zast (pc := 130) E s_89 dX10_customs_130 e34 ?_
          refine j_aload_n (pc := 131) rfl 0 rfl E dX10_customs_131 ?_
          refine j_iconst (pc := 132) (v := 0) (by decide) E dX10_customs_132 ?_
          refine JF.xlet (fun m36 e37 => ?_)
          refine j_put (pc := 133) E xuX10 tyX10 tyX10_ok nmX10 rfl s_85 rfl (k := 2) (by decide) q_1084 rfl rfl (ty := .int) (by decide +kernel) rfl rfl dX10_customs_133 e37 ?_
          refine j_aload_n (pc := 136) rfl 0 rfl E dX10_customs_136 ?_
          refine j_get (pc := 137) E xuX10 rfl s_85 (k := 17) (by decide) q_1099 rfl (xflds_int rfl) dX10_customs_137 ?_
          exact j_iret (pc := 140) E R dX10_customs_140
def fX10_word (N : Nat) (σ : XS) (p1 : Int32) (p2 : Int32) : Option XO := xB (fX10_isWord N σ p1) (fun y1 m2 => if y1 = 0 then some ((-2), m2) else xB (fX10_in N m2 p2.toInt64 0 3) (fun y4 m5 => if y4 = 0 then some ((-3), m5) else gd (xin ((6 + (4 * p1)) + p2) 98) (some ((m5 86 ((6 + (4 * p1)) + p2).toNatClampNeg), m5))))
set_option maxRecDepth 100000 in
set_option maxHeartbeats 4000000 in
theorem kX10_word {N : Nat} {σ : XS} {p1 : Int32} {p2 : Int32} {o : XO} (h : fX10_word N σ p1 p2 = some o) : CtI yX10_word cX10_word 3 (some .int) 2 46 (fun Am ad => [.ref (Am 85), .int p1, .int p2]) σ o := by
  refine ct_int (by decide) (fun _ _ => Nat.le_of_ble_eq_true rfl) (fun X E R => ?_)
  rw [← h]
  show JF X o 3 0 [(0, .ref (xa X 85)), (1, .int p1), (2, .int p2)] [] σ (xB (fX10_isWord N σ p1) (fun y1 m2 => if y1 = 0 then some ((-2), m2) else xB (fX10_in N m2 p2.toInt64 0 3) (fun y4 m5 => if y4 = 0 then some ((-3), m5) else gd (xin ((6 + (4 * p1)) + p2) 98) (some ((m5 86 ((6 + (4 * p1)) + p2).toNatClampNeg), m5)))))
  refine j_aload_n (pc := 0) rfl 0 rfl E dX10_word_0 ?_
  refine j_iload_n (pc := 1) rfl 1 rfl E dX10_word_1 ?_
  refine JF.xb (fun y1 m2 h3 => ?_)
  refine j_callVi (pc := 2) (st := []) E (kX10_isWord h3) mv_X10_isWord rfl s_85 q_1233 [.int p1] rfl rfl rfl (by decide) (Nat.le_of_ble_eq_true rfl) dX10_word_2 ?_
  refine j_if_ne (pc := 5) (tgt := 13) E dX10_word_5 (by decide) ?_ ?_
  · refine j_bipush (pc := 8) (v := (-2)) (by decide) E dX10_word_8 ?_
    refine j_goto (pc := 10) (tgt := 43) E dX10_word_10 (by decide) ?_
    exact j_iret (pc := 43) E R dX10_word_43
  · refine j_iload_n (pc := 13) rfl 2 rfl E dX10_word_13 ?_
    refine j_i2l (pc := 14) E dX10_word_14 ?_
    refine j_lconst (pc := 15) (v := 0) (by decide) E dX10_word_15 ?_
    refine j_ldc2 (pc := 16) (v := 3) E q_1237 dX10_word_16 ?_
    refine JF.xb (fun y4 m5 h6 => ?_)
    refine j_callSi (pc := 19) (st := []) E (kX10_in h6) mv_X10_in q_1079 [.long p2.toInt64, .long 0, .long 3] rfl rfl rfl (by decide) (Nat.le_of_ble_eq_true rfl) dX10_word_19 ?_
    refine j_if_eq (pc := 22) (tgt := 41) E dX10_word_22 (by decide) ?_ ?_
    · refine j_bipush (pc := 41) (v := (-3)) (by decide) E dX10_word_41 ?_
      exact j_iret (pc := 43) E R dX10_word_43
    · refine j_aload_n (pc := 25) rfl 0 rfl E dX10_word_25 ?_
      refine j_get (pc := 26) E xuX10 rfl s_85 (k := 0) (by decide) q_1082 rfl (xflds_ref rfl) dX10_word_26 ?_
      refine j_bipush (pc := 29) (v := 6) (by decide) E dX10_word_29 ?_
      refine j_iconst (pc := 31) (v := 4) (by decide) E dX10_word_31 ?_
      refine j_iload_n (pc := 32) rfl 1 rfl E dX10_word_32 ?_
      refine j_imul (pc := 33) E dX10_word_33 ?_
      refine j_iadd (pc := 34) E dX10_word_34 ?_
      refine j_iload_n (pc := 35) rfl 2 rfl E dX10_word_35 ?_
      refine j_iadd (pc := 36) E dX10_word_36 ?_
      refine j_iald (pc := 37) E s_86 dX10_word_37 ?_
      refine j_goto (pc := 38) (tgt := 43) E dX10_word_38 (by decide) ?_
      exact j_iret (pc := 43) E R dX10_word_43
def fX10_ware (N : Nat) (σ : XS) (p1 : Int32) (p2 : Int32) : Option XO := xB (fX10_isWare N σ p1) (fun y1 m2 => if y1 = 0 then some ((-2), m2) else xB (fX10_in N m2 p2.toInt64 0 2) (fun y4 m5 => if y4 = 0 then some ((-3), m5) else gd (xin ((46 + (3 * p1)) + p2) 98) (some ((m5 86 ((46 + (3 * p1)) + p2).toNatClampNeg), m5))))
set_option maxRecDepth 100000 in
set_option maxHeartbeats 4000000 in
theorem kX10_ware {N : Nat} {σ : XS} {p1 : Int32} {p2 : Int32} {o : XO} (h : fX10_ware N σ p1 p2 = some o) : CtI yX10_ware cX10_ware 3 (some .int) 2 46 (fun Am ad => [.ref (Am 85), .int p1, .int p2]) σ o := by
  refine ct_int (by decide) (fun _ _ => Nat.le_of_ble_eq_true rfl) (fun X E R => ?_)
  rw [← h]
  show JF X o 3 0 [(0, .ref (xa X 85)), (1, .int p1), (2, .int p2)] [] σ (xB (fX10_isWare N σ p1) (fun y1 m2 => if y1 = 0 then some ((-2), m2) else xB (fX10_in N m2 p2.toInt64 0 2) (fun y4 m5 => if y4 = 0 then some ((-3), m5) else gd (xin ((46 + (3 * p1)) + p2) 98) (some ((m5 86 ((46 + (3 * p1)) + p2).toNatClampNeg), m5)))))
  refine j_aload_n (pc := 0) rfl 0 rfl E dX10_ware_0 ?_
  refine j_iload_n (pc := 1) rfl 1 rfl E dX10_ware_1 ?_
  refine JF.xb (fun y1 m2 h3 => ?_)
  refine j_callVi (pc := 2) (st := []) E (kX10_isWare h3) mv_X10_isWare rfl s_85 q_1242 [.int p1] rfl rfl rfl (by decide) (Nat.le_of_ble_eq_true rfl) dX10_ware_2 ?_
  refine j_if_ne (pc := 5) (tgt := 13) E dX10_ware_5 (by decide) ?_ ?_
  · refine j_bipush (pc := 8) (v := (-2)) (by decide) E dX10_ware_8 ?_
    refine j_goto (pc := 10) (tgt := 43) E dX10_ware_10 (by decide) ?_
    exact j_iret (pc := 43) E R dX10_ware_43
  · refine j_iload_n (pc := 13) rfl 2 rfl E dX10_ware_13 ?_
    refine j_i2l (pc := 14) E dX10_ware_14 ?_
    refine j_lconst (pc := 15) (v := 0) (by decide) E dX10_ware_15 ?_
    refine j_ldc2 (pc := 16) (v := 2) E q_1246 dX10_ware_16 ?_
    refine JF.xb (fun y4 m5 h6 => ?_)
    refine j_callSi (pc := 19) (st := []) E (kX10_in h6) mv_X10_in q_1079 [.long p2.toInt64, .long 0, .long 2] rfl rfl rfl (by decide) (Nat.le_of_ble_eq_true rfl) dX10_ware_19 ?_
    refine j_if_eq (pc := 22) (tgt := 41) E dX10_ware_22 (by decide) ?_ ?_
    · refine j_bipush (pc := 41) (v := (-3)) (by decide) E dX10_ware_41 ?_
      exact j_iret (pc := 43) E R dX10_ware_43
    · refine j_aload_n (pc := 25) rfl 0 rfl E dX10_ware_25 ?_
      refine j_get (pc := 26) E xuX10 rfl s_85 (k := 0) (by decide) q_1082 rfl (xflds_ref rfl) dX10_ware_26 ?_
      refine j_bipush (pc := 29) (v := 46) (by decide) E dX10_ware_29 ?_
      refine j_iconst (pc := 31) (v := 3) (by decide) E dX10_ware_31 ?_
      refine j_iload_n (pc := 32) rfl 1 rfl E dX10_ware_32 ?_
      refine j_imul (pc := 33) E dX10_ware_33 ?_
      refine j_iadd (pc := 34) E dX10_ware_34 ?_
      refine j_iload_n (pc := 35) rfl 2 rfl E dX10_ware_35 ?_
      refine j_iadd (pc := 36) E dX10_ware_36 ?_
      refine j_iald (pc := 37) E s_86 dX10_ware_37 ?_
      refine j_goto (pc := 38) (tgt := 43) E dX10_ware_38 (by decide) ?_
      exact j_iret (pc := 43) E R dX10_ware_43
def fX10_clerk (N : Nat) (σ : XS) (p1 : Int32) : Option XO := xB (fX10_isClerk N σ p1) (fun y1 m2 => if y1 = 0 then some ((-2), m2) else gd (xin (64 + p1) 98) (some ((m2 86 (64 + p1).toNatClampNeg), m2)))
set_option maxRecDepth 100000 in
set_option maxHeartbeats 4000000 in
theorem kX10_clerk {N : Nat} {σ : XS} {p1 : Int32} {o : XO} (h : fX10_clerk N σ p1 = some o) : CtI yX10_clerk cX10_clerk 2 (some .int) 2 46 (fun Am ad => [.ref (Am 85), .int p1]) σ o := by
  refine ct_int (by decide) (fun _ _ => Nat.le_of_ble_eq_true rfl) (fun X E R => ?_)
  rw [← h]
  show JF X o 2 0 [(0, .ref (xa X 85)), (1, .int p1)] [] σ (xB (fX10_isClerk N σ p1) (fun y1 m2 => if y1 = 0 then some ((-2), m2) else gd (xin (64 + p1) 98) (some ((m2 86 (64 + p1).toNatClampNeg), m2))))
  refine j_aload_n (pc := 0) rfl 0 rfl E dX10_clerk_0 ?_
  refine j_iload_n (pc := 1) rfl 1 rfl E dX10_clerk_1 ?_
  refine JF.xb (fun y1 m2 h3 => ?_)
  refine j_callVi (pc := 2) (st := []) E (kX10_isClerk h3) mv_X10_isClerk rfl s_85 q_1251 [.int p1] rfl rfl rfl (by decide) (Nat.le_of_ble_eq_true rfl) dX10_clerk_2 ?_
  refine j_if_eq (pc := 5) (tgt := 20) E dX10_clerk_5 (by decide) ?_ ?_
  · refine j_bipush (pc := 20) (v := (-2)) (by decide) E dX10_clerk_20 ?_
    exact j_iret (pc := 22) E R dX10_clerk_22
  · refine j_aload_n (pc := 8) rfl 0 rfl E dX10_clerk_8 ?_
    refine j_get (pc := 9) E xuX10 rfl s_85 (k := 0) (by decide) q_1082 rfl (xflds_ref rfl) dX10_clerk_9 ?_
    refine j_bipush (pc := 12) (v := 64) (by decide) E dX10_clerk_12 ?_
    refine j_iload_n (pc := 14) rfl 1 rfl E dX10_clerk_14 ?_
    refine j_iadd (pc := 15) E dX10_clerk_15 ?_
    refine j_iald (pc := 16) E s_86 dX10_clerk_16 ?_
    refine j_goto (pc := 17) (tgt := 22) E dX10_clerk_17 (by decide) ?_
    exact j_iret (pc := 22) E R dX10_clerk_22
def fX10_portsOf_L4 (N : Nat) (v1 : Int32) (k38 : Int32 → XS → Option XO) : Nat → Int32 → Int32 → XS → Option XO
  | 0, _, _, _ => none
  | n + 1, v2, v3, σ => if 4 ≤ v3 then k38 v2 σ else gd (xin (42 + v3) 98) (if (σ 86 (42 + v3).toNatClampNeg) = v1 then xLetI (v2 ||| (1 <<< (v3 &&& 31))) (fun x1 => fX10_portsOf_L4 N v1 k38 n x1 (v3 + 1) σ) else fX10_portsOf_L4 N v1 k38 n (v2 ||| 0) (v3 + 1) σ)
set_option maxRecDepth 100000 in
set_option maxHeartbeats 4000000 in
theorem lX10_portsOf_L4 (N : Nat) (v1 : Int32) (k38 : Int32 → XS → Option XO) {X : XC} {o : XO} (E : XE X cX10_portsOf RX10 4 0 0) (R : XI X o cX10_portsOf) (K38 : ∀ (v2 : Int32) (σ : XS), JF X o 4 38 [(2, .int v2)] [] σ (k38 v2 σ)) : ∀ (n : Nat) (v2 : Int32) (v3 : Int32) (σ : XS), JF X o 4 4 [(0, .ref (xa X 85)), (1, .int v1), (2, .int v2), (3, .int v3)] [] σ (fX10_portsOf_L4 N v1 k38 n v2 v3 σ) := by
  intro n
  induction n with
  | zero => intro v2 v3 σ; exact JF.none
  | succ n ih =>
    intro v2 v3 σ
    show JF X o 4 4 [(0, .ref (xa X 85)), (1, .int v1), (2, .int v2), (3, .int v3)] [] σ (if 4 ≤ v3 then k38 v2 σ else gd (xin (42 + v3) 98) (if (σ 86 (42 + v3).toNatClampNeg) = v1 then xLetI (v2 ||| (1 <<< (v3 &&& 31))) (fun x1 => fX10_portsOf_L4 N v1 k38 n x1 (v3 + 1) σ) else fX10_portsOf_L4 N v1 k38 n (v2 ||| 0) (v3 + 1) σ))
    refine j_iload_n (pc := 4) rfl 3 rfl E dX10_portsOf_4 ?_
    refine j_iconst (pc := 5) (v := 4) (by decide) E dX10_portsOf_5 ?_
    refine j_icmp_ge (pc := 6) (tgt := 38) E dX10_portsOf_6 (by decide) ?_ ?_
    · refine JF.sub [2] rfl ?_
      exact K38 v2 σ
    · refine j_iload_n (pc := 9) rfl 2 rfl E dX10_portsOf_9 ?_
      refine j_aload_n (pc := 10) rfl 0 rfl E dX10_portsOf_10 ?_
      refine j_get (pc := 11) E xuX10 rfl s_85 (k := 0) (by decide) q_1082 rfl (xflds_ref rfl) dX10_portsOf_11 ?_
      refine j_bipush (pc := 14) (v := 42) (by decide) E dX10_portsOf_14 ?_
      refine j_iload_n (pc := 16) rfl 3 rfl E dX10_portsOf_16 ?_
      refine j_iadd (pc := 17) E dX10_portsOf_17 ?_
      refine j_iald (pc := 18) E s_86 dX10_portsOf_18 ?_
      refine j_iload_n (pc := 19) rfl 1 rfl E dX10_portsOf_19 ?_
      refine j_icmp_ne (pc := 20) (tgt := 29) E dX10_portsOf_20 (by decide) ?_ ?_
      · refine j_iconst (pc := 23) (v := 1) (by decide) E dX10_portsOf_23 ?_
        refine j_iload_n (pc := 24) rfl 3 rfl E dX10_portsOf_24 ?_
        refine j_ishl (pc := 25) E dX10_portsOf_25 ?_
        refine j_goto (pc := 26) (tgt := 30) E dX10_portsOf_26 (by decide) ?_
        refine j_ior (pc := 30) E dX10_portsOf_30 ?_
        refine JF.xletI (fun x1 => ?_)
        refine j_istore_n (pc := 31) (lv1 := [(2, .int x1), (0, .ref (xa X 85)), (1, .int v1), (3, .int v3)]) E dX10_portsOf_31 rfl (by decide) rfl ?_
        refine j_iinc (pc := 32) (v := (v3 + 1)) (lv1 := [(3, .int (v3 + 1)), (2, .int x1), (0, .ref (xa X 85)), (1, .int v1)]) E dX10_portsOf_32 3 rfl rfl (by decide) rfl ?_
        refine j_goto (pc := 35) (tgt := 4) E dX10_portsOf_35 (by decide) ?_
        refine JF.sub [2, 3, 1, 0] rfl ?_
        exact ih x1 (v3 + 1) σ
      · refine j_iconst (pc := 29) (v := 0) (by decide) E dX10_portsOf_29 ?_
        refine j_ior (pc := 30) E dX10_portsOf_30 ?_
        refine j_istore_n (pc := 31) (lv1 := [(2, .int (v2 ||| 0)), (0, .ref (xa X 85)), (1, .int v1), (3, .int v3)]) E dX10_portsOf_31 rfl (by decide) rfl ?_
        refine j_iinc (pc := 32) (v := (v3 + 1)) (lv1 := [(3, .int (v3 + 1)), (2, .int (v2 ||| 0)), (0, .ref (xa X 85)), (1, .int v1)]) E dX10_portsOf_32 3 rfl rfl (by decide) rfl ?_
        refine j_goto (pc := 35) (tgt := 4) E dX10_portsOf_35 (by decide) ?_
        refine JF.sub [2, 3, 1, 0] rfl ?_
        exact ih (v2 ||| 0) (v3 + 1) σ
def fX10_portsOf (N : Nat) (σ : XS) (p1 : Int32) : Option XO := fX10_portsOf_L4 N p1 (fun x2 m3 => some (x2, m3)) N 0 0 σ
set_option maxRecDepth 100000 in
set_option maxHeartbeats 4000000 in
theorem kX10_portsOf {N : Nat} {σ : XS} {p1 : Int32} {o : XO} (h : fX10_portsOf N σ p1 = some o) : CtI yX10_portsOf cX10_portsOf 4 (some .int) 0 0 (fun Am ad => [.ref (Am 85), .int p1]) σ o := by
  refine ct_int (by decide) (fun _ _ => Nat.le_of_ble_eq_true rfl) (fun X E R => ?_)
  rw [← h]
  show JF X o 4 0 [(0, .ref (xa X 85)), (1, .int p1)] [] σ (fX10_portsOf_L4 N p1 (fun x2 m3 => some (x2, m3)) N 0 0 σ)
  refine j_iconst (pc := 0) (v := 0) (by decide) E dX10_portsOf_0 ?_
  refine j_istore_n (pc := 1) (lv1 := [(2, .int 0), (0, .ref (xa X 85)), (1, .int p1)]) E dX10_portsOf_1 rfl (by decide) rfl ?_
  refine j_iconst (pc := 2) (v := 0) (by decide) E dX10_portsOf_2 ?_
  refine j_istore_n (pc := 3) (lv1 := [(3, .int 0), (2, .int 0), (0, .ref (xa X 85)), (1, .int p1)]) E dX10_portsOf_3 rfl (by decide) rfl ?_
  refine JF.sub [2, 3, 1, 0] rfl ?_
  refine lX10_portsOf_L4 N p1 _ E R (fun x2 m3 => ?_) N 0 0 σ
  · refine j_iload_n (pc := 38) rfl 0 rfl E dX10_portsOf_38 ?_
    exact j_iret (pc := 39) E R dX10_portsOf_39
def fX10_rhyme_J40 (N : Nat) (v1 : Int32) (v2 : Int32) (t0 : Int32) (σ : XS) : Option XO := xB (fX10_in N σ v2.toInt64 0 2) (fun y4 m5 => if y4 = 0 then some ((-3), m5) else if v2 = 2 then xB (fX10_portsOf N m5 v1) (fun y7 m8 => some (y7, m8)) else some (t0, m5))
set_option maxRecDepth 100000 in
set_option maxHeartbeats 4000000 in
theorem lX10_rhyme_J40 (N : Nat) (v1 : Int32) (v2 : Int32) (t0 : Int32) {X : XC} {o : XO} (E : XE X cX10_rhyme RX10 4 1 25) (R : XI X o cX10_rhyme) (σ : XS) : JF X o 4 40 [(0, .ref (xa X 85)), (1, .int v1), (2, .int v2)] [.int t0] σ (fX10_rhyme_J40 N v1 v2 t0 σ) := by
  show JF X o 4 40 [(0, .ref (xa X 85)), (1, .int v1), (2, .int v2)] [.int t0] σ (xB (fX10_in N σ v2.toInt64 0 2) (fun y4 m5 => if y4 = 0 then some ((-3), m5) else if v2 = 2 then xB (fX10_portsOf N m5 v1) (fun y7 m8 => some (y7, m8)) else some (t0, m5)))
  refine j_istore_n (pc := 40) (lv1 := [(3, .int t0), (0, .ref (xa X 85)), (1, .int v1), (2, .int v2)]) E dX10_rhyme_40 rfl (by decide) rfl ?_
  refine j_iload_n (pc := 41) rfl 3 rfl E dX10_rhyme_41 ?_
  refine j_i2l (pc := 42) E dX10_rhyme_42 ?_
  refine j_lconst (pc := 43) (v := 0) (by decide) E dX10_rhyme_43 ?_
  refine j_ldc2 (pc := 44) (v := 2) E q_1246 dX10_rhyme_44 ?_
  refine JF.xb (fun y4 m5 h6 => ?_)
  refine j_callSi (pc := 47) (st := []) E (kX10_in h6) mv_X10_in q_1079 [.long v2.toInt64, .long 0, .long 2] rfl rfl rfl (by decide) (Nat.le_of_ble_eq_true rfl) dX10_rhyme_47 ?_
  refine j_if_ne (pc := 50) (tgt := 58) E dX10_rhyme_50 (by decide) ?_ ?_
  · refine j_bipush (pc := 53) (v := (-3)) (by decide) E dX10_rhyme_53 ?_
    refine j_goto (pc := 55) (tgt := 72) E dX10_rhyme_55 (by decide) ?_
    exact j_iret (pc := 72) E R dX10_rhyme_72
  · refine j_iload_n (pc := 58) rfl 3 rfl E dX10_rhyme_58 ?_
    refine j_iconst (pc := 59) (v := 2) (by decide) E dX10_rhyme_59 ?_
    refine j_icmp_ne (pc := 60) (tgt := 71) E dX10_rhyme_60 (by decide) ?_ ?_
    · refine j_aload_n (pc := 63) rfl 1 rfl E dX10_rhyme_63 ?_
      refine j_iload_n (pc := 64) rfl 2 rfl E dX10_rhyme_64 ?_
      refine JF.xb (fun y7 m8 h9 => ?_)
      refine j_callVi (pc := 65) (st := []) E (kX10_portsOf h9) mv_X10_portsOf rfl s_85 q_1260 [.int v1] rfl rfl rfl (by decide) (Nat.le_of_ble_eq_true rfl) dX10_rhyme_65 ?_
      refine j_goto (pc := 68) (tgt := 72) E dX10_rhyme_68 (by decide) ?_
      exact j_iret (pc := 72) E R dX10_rhyme_72
    · refine j_iload_n (pc := 71) rfl 0 rfl E dX10_rhyme_71 ?_
      exact j_iret (pc := 72) E R dX10_rhyme_72
def fX10_rhyme (N : Nat) (σ : XS) (p1 : Int32) (p2 : Int32) : Option XO := xB (fX10_in N σ p1.toInt64 0 5) (fun y1 m2 => if y1 = 0 then some ((-2), m2) else if p2 = 0 then gd (xin (67 + p1) 98) (fX10_rhyme_J40 N p1 p2 (m2 86 (67 + p1).toNatClampNeg) m2) else gd (xin (73 + p1) 98) (fX10_rhyme_J40 N p1 p2 (m2 86 (73 + p1).toNatClampNeg) m2))
set_option maxRecDepth 100000 in
set_option maxHeartbeats 4000000 in
theorem kX10_rhyme {N : Nat} {σ : XS} {p1 : Int32} {p2 : Int32} {o : XO} (h : fX10_rhyme N σ p1 p2 = some o) : CtI yX10_rhyme cX10_rhyme 4 (some .int) 1 25 (fun Am ad => [.ref (Am 85), .int p1, .int p2]) σ o := by
  refine ct_int (by decide) (fun _ _ => Nat.le_of_ble_eq_true rfl) (fun X E R => ?_)
  rw [← h]
  show JF X o 4 0 [(0, .ref (xa X 85)), (1, .int p1), (2, .int p2)] [] σ (xB (fX10_in N σ p1.toInt64 0 5) (fun y1 m2 => if y1 = 0 then some ((-2), m2) else if p2 = 0 then gd (xin (67 + p1) 98) (fX10_rhyme_J40 N p1 p2 (m2 86 (67 + p1).toNatClampNeg) m2) else gd (xin (73 + p1) 98) (fX10_rhyme_J40 N p1 p2 (m2 86 (73 + p1).toNatClampNeg) m2)))
  refine j_iload_n (pc := 0) rfl 1 rfl E dX10_rhyme_0 ?_
  refine j_i2l (pc := 1) E dX10_rhyme_1 ?_
  refine j_lconst (pc := 2) (v := 0) (by decide) E dX10_rhyme_2 ?_
  refine j_ldc2 (pc := 3) (v := 5) E q_1259 dX10_rhyme_3 ?_
  refine JF.xb (fun y1 m2 h3 => ?_)
  refine j_callSi (pc := 6) (st := []) E (kX10_in h3) mv_X10_in q_1079 [.long p1.toInt64, .long 0, .long 5] rfl rfl rfl (by decide) (Nat.le_of_ble_eq_true rfl) dX10_rhyme_6 ?_
  refine j_if_ne (pc := 9) (tgt := 15) E dX10_rhyme_9 (by decide) ?_ ?_
  · refine j_bipush (pc := 12) (v := (-2)) (by decide) E dX10_rhyme_12 ?_
    exact j_iret (pc := 14) E R dX10_rhyme_14
  · refine j_iload_n (pc := 15) rfl 2 rfl E dX10_rhyme_15 ?_
    refine j_if_ne (pc := 16) (tgt := 31) E dX10_rhyme_16 (by decide) ?_ ?_
    · refine j_aload_n (pc := 19) rfl 0 rfl E dX10_rhyme_19 ?_
      refine j_get (pc := 20) E xuX10 rfl s_85 (k := 0) (by decide) q_1082 rfl (xflds_ref rfl) dX10_rhyme_20 ?_
      refine j_bipush (pc := 23) (v := 67) (by decide) E dX10_rhyme_23 ?_
      refine j_iload_n (pc := 25) rfl 1 rfl E dX10_rhyme_25 ?_
      refine j_iadd (pc := 26) E dX10_rhyme_26 ?_
      refine j_iald (pc := 27) E s_86 dX10_rhyme_27 ?_
      refine j_goto (pc := 28) (tgt := 40) E dX10_rhyme_28 (by decide) ?_
      refine JF.sub [0, 1, 2] rfl ?_
      exact lX10_rhyme_J40 N p1 p2 (m2 86 (67 + p1).toNatClampNeg) E R m2
    · refine j_aload_n (pc := 31) rfl 0 rfl E dX10_rhyme_31 ?_
      refine j_get (pc := 32) E xuX10 rfl s_85 (k := 0) (by decide) q_1082 rfl (xflds_ref rfl) dX10_rhyme_32 ?_
      refine j_bipush (pc := 35) (v := 73) (by decide) E dX10_rhyme_35 ?_
      refine j_iload_n (pc := 37) rfl 1 rfl E dX10_rhyme_37 ?_
      refine j_iadd (pc := 38) E dX10_rhyme_38 ?_
      refine j_iald (pc := 39) E s_86 dX10_rhyme_39 ?_
      refine JF.sub [0, 1, 2] rfl ?_
      exact lX10_rhyme_J40 N p1 p2 (m2 86 (73 + p1).toNatClampNeg) E R m2
def fX10_kindOf (N : Nat) (σ : XS) (p1 : Int32) : Option XO := gd (xin (6 + (4 * p1)) 98) (some ((σ 86 (6 + (4 * p1)).toNatClampNeg), σ))
set_option maxRecDepth 100000 in
set_option maxHeartbeats 4000000 in
theorem kX10_kindOf {N : Nat} {σ : XS} {p1 : Int32} {o : XO} (h : fX10_kindOf N σ p1 = some o) : CtI yX10_kindOf cX10_kindOf 2 (some .int) 0 0 (fun Am ad => [.ref (Am 85), .int p1]) σ o := by
  refine ct_int (by decide) (fun _ _ => Nat.le_of_ble_eq_true rfl) (fun X E R => ?_)
  rw [← h]
  show JF X o 2 0 [(0, .ref (xa X 85)), (1, .int p1)] [] σ (gd (xin (6 + (4 * p1)) 98) (some ((σ 86 (6 + (4 * p1)).toNatClampNeg), σ)))
  refine j_aload_n (pc := 0) rfl 0 rfl E dX10_kindOf_0 ?_
  refine j_get (pc := 1) E xuX10 rfl s_85 (k := 0) (by decide) q_1082 rfl (xflds_ref rfl) dX10_kindOf_1 ?_
  refine j_bipush (pc := 4) (v := 6) (by decide) E dX10_kindOf_4 ?_
  refine j_iconst (pc := 6) (v := 4) (by decide) E dX10_kindOf_6 ?_
  refine j_iload_n (pc := 7) rfl 1 rfl E dX10_kindOf_7 ?_
  refine j_imul (pc := 8) E dX10_kindOf_8 ?_
  refine j_iadd (pc := 9) E dX10_kindOf_9 ?_
  refine j_iald (pc := 10) E s_86 dX10_kindOf_10 ?_
  exact j_iret (pc := 11) E R dX10_kindOf_11
def fX10_as_J93 (N : Nat) (v1 : Int32) (v3 : Int32) (t0 : Int32) (σ : XS) : Option XO := if t0 = 0 then some ((-4), σ) else if v3 = 2 then some (15, σ) else gd (xin ((6 + (4 * v1)) + 3) 98) (xB (fX10_portsOf N σ (σ 86 ((6 + (4 * v1)) + 3).toNatClampNeg)) (fun y10 m11 => some (y10, m11)))
set_option maxRecDepth 100000 in
set_option maxHeartbeats 4000000 in
theorem lX10_as_J93 (N : Nat) (v1 : Int32) (v3 : Int32) (t0 : Int32) {X : XC} {o : XO} (E : XE X cX10_as RX10 6 2 46) (R : XI X o cX10_as) (σ : XS) : JF X o 6 93 [(0, .ref (xa X 85)), (1, .int v1), (3, .int v3)] [.int t0] σ (fX10_as_J93 N v1 v3 t0 σ) := by
  show JF X o 6 93 [(0, .ref (xa X 85)), (1, .int v1), (3, .int v3)] [.int t0] σ (if t0 = 0 then some ((-4), σ) else if v3 = 2 then some (15, σ) else gd (xin ((6 + (4 * v1)) + 3) 98) (xB (fX10_portsOf N σ (σ 86 ((6 + (4 * v1)) + 3).toNatClampNeg)) (fun y10 m11 => some (y10, m11))))
  refine j_istore (pc := 93) (lv1 := [(5, .int t0), (0, .ref (xa X 85)), (1, .int v1), (3, .int v3)]) E dX10_as_93 (by decide) rfl ?_
  refine j_iload (pc := 95) 0 rfl E dX10_as_95 ?_
  refine j_if_ne (pc := 97) (tgt := 105) E dX10_as_97 (by decide) ?_ ?_
  · refine j_bipush (pc := 100) (v := (-4)) (by decide) E dX10_as_100 ?_
    refine j_goto (pc := 102) (tgt := 132) E dX10_as_102 (by decide) ?_
    exact j_iret (pc := 132) E R dX10_as_132
  · refine j_iload_n (pc := 105) rfl 3 rfl E dX10_as_105 ?_
    refine j_iconst (pc := 106) (v := 2) (by decide) E dX10_as_106 ?_
    refine j_icmp_ne (pc := 107) (tgt := 115) E dX10_as_107 (by decide) ?_ ?_
    · refine j_bipush (pc := 110) (v := 15) (by decide) E dX10_as_110 ?_
      refine j_goto (pc := 112) (tgt := 132) E dX10_as_112 (by decide) ?_
      exact j_iret (pc := 132) E R dX10_as_132
    · refine j_aload_n (pc := 115) rfl 1 rfl E dX10_as_115 ?_
      refine j_aload_n (pc := 116) rfl 1 rfl E dX10_as_116 ?_
      refine j_get (pc := 117) E xuX10 rfl s_85 (k := 0) (by decide) q_1082 rfl (xflds_ref rfl) dX10_as_117 ?_
      refine j_bipush (pc := 120) (v := 6) (by decide) E dX10_as_120 ?_
      refine j_iconst (pc := 122) (v := 4) (by decide) E dX10_as_122 ?_
      refine j_iload_n (pc := 123) rfl 2 rfl E dX10_as_123 ?_
      refine j_imul (pc := 124) E dX10_as_124 ?_
      refine j_iadd (pc := 125) E dX10_as_125 ?_
      refine j_iconst (pc := 126) (v := 3) (by decide) E dX10_as_126 ?_
      refine j_iadd (pc := 127) E dX10_as_127 ?_
      refine j_iald (pc := 128) E s_86 dX10_as_128 ?_
      refine JF.xb (fun y10 m11 h12 => ?_)
      refine j_callVi (pc := 129) (st := []) E (kX10_portsOf h12) mv_X10_portsOf rfl s_85 q_1260 [.int (σ 86 ((6 + (4 * v1)) + 3).toNatClampNeg)] rfl rfl rfl (by decide) (Nat.le_of_ble_eq_true rfl) dX10_as_129 ?_
      exact j_iret (pc := 132) E R dX10_as_132
def fX10_as_J88 (N : Nat) (v1 : Int32) (v3 : Int32) (σ : XS) : Option XO := fX10_as_J93 N v1 v3 1 σ
set_option maxRecDepth 100000 in
set_option maxHeartbeats 4000000 in
theorem lX10_as_J88 (N : Nat) (v1 : Int32) (v3 : Int32) {X : XC} {o : XO} (E : XE X cX10_as RX10 6 2 46) (R : XI X o cX10_as) (σ : XS) : JF X o 6 88 [(0, .ref (xa X 85)), (1, .int v1), (3, .int v3)] [] σ (fX10_as_J88 N v1 v3 σ) := by
  show JF X o 6 88 [(0, .ref (xa X 85)), (1, .int v1), (3, .int v3)] [] σ (fX10_as_J93 N v1 v3 1 σ)
  refine j_iconst (pc := 88) (v := 1) (by decide) E dX10_as_88 ?_
  refine j_goto (pc := 89) (tgt := 93) E dX10_as_89 (by decide) ?_
  refine JF.sub [0, 1, 2] rfl ?_
  exact lX10_as_J93 N v1 v3 1 E R σ
def fX10_as_J92 (N : Nat) (v1 : Int32) (v3 : Int32) (σ : XS) : Option XO := fX10_as_J93 N v1 v3 0 σ
set_option maxRecDepth 100000 in
set_option maxHeartbeats 4000000 in
theorem lX10_as_J92 (N : Nat) (v1 : Int32) (v3 : Int32) {X : XC} {o : XO} (E : XE X cX10_as RX10 6 2 46) (R : XI X o cX10_as) (σ : XS) : JF X o 6 92 [(0, .ref (xa X 85)), (1, .int v1), (3, .int v3)] [] σ (fX10_as_J92 N v1 v3 σ) := by
  show JF X o 6 92 [(0, .ref (xa X 85)), (1, .int v1), (3, .int v3)] [] σ (fX10_as_J93 N v1 v3 0 σ)
  refine j_iconst (pc := 92) (v := 0) (by decide) E dX10_as_92 ?_
  refine JF.sub [0, 1, 2] rfl ?_
  exact lX10_as_J93 N v1 v3 0 E R σ
def fX10_as_J78 (N : Nat) (v1 : Int32) (v2 : Int32) (v3 : Int32) (σ : XS) : Option XO := if v2 = 4 then if v3 = 3 then fX10_as_J88 N v1 v3 σ else fX10_as_J92 N v1 v3 σ else fX10_as_J92 N v1 v3 σ
set_option maxRecDepth 100000 in
set_option maxHeartbeats 4000000 in
theorem lX10_as_J78 (N : Nat) (v1 : Int32) (v2 : Int32) (v3 : Int32) {X : XC} {o : XO} (E : XE X cX10_as RX10 6 2 46) (R : XI X o cX10_as) (σ : XS) : JF X o 6 78 [(0, .ref (xa X 85)), (1, .int v1), (2, .int v2), (3, .int v3)] [] σ (fX10_as_J78 N v1 v2 v3 σ) := by
  show JF X o 6 78 [(0, .ref (xa X 85)), (1, .int v1), (2, .int v2), (3, .int v3)] [] σ (if v2 = 4 then if v3 = 3 then fX10_as_J88 N v1 v3 σ else fX10_as_J92 N v1 v3 σ else fX10_as_J92 N v1 v3 σ)
  refine j_iload_n (pc := 78) rfl 2 rfl E dX10_as_78 ?_
  refine j_iconst (pc := 79) (v := 4) (by decide) E dX10_as_79 ?_
  refine j_icmp_ne (pc := 80) (tgt := 92) E dX10_as_80 (by decide) ?_ ?_
  · refine j_iload_n (pc := 83) rfl 3 rfl E dX10_as_83 ?_
    refine j_iconst (pc := 84) (v := 3) (by decide) E dX10_as_84 ?_
    refine j_icmp_ne (pc := 85) (tgt := 92) E dX10_as_85 (by decide) ?_ ?_
    · refine JF.sub [0, 1, 3] rfl ?_
      exact lX10_as_J88 N v1 v3 E R σ
    · refine JF.sub [0, 1, 3] rfl ?_
      exact lX10_as_J92 N v1 v3 E R σ
  · refine JF.sub [0, 1, 3] rfl ?_
    exact lX10_as_J92 N v1 v3 E R σ
def fX10_as_J57 (N : Nat) (v1 : Int32) (v2 : Int32) (v3 : Int32) (t0 : Int32) (σ : XS) : Option XO := if v2 = 0 then fX10_as_J88 N v1 v3 σ else if t0 = 0 then if v2 = 3 then if 2 ≤ v3 then fX10_as_J88 N v1 v3 σ else fX10_as_J78 N v1 v2 v3 σ else fX10_as_J78 N v1 v2 v3 σ else fX10_as_J88 N v1 v3 σ
set_option maxRecDepth 100000 in
set_option maxHeartbeats 4000000 in
theorem lX10_as_J57 (N : Nat) (v1 : Int32) (v2 : Int32) (v3 : Int32) (t0 : Int32) {X : XC} {o : XO} (E : XE X cX10_as RX10 6 2 46) (R : XI X o cX10_as) (σ : XS) : JF X o 6 57 [(0, .ref (xa X 85)), (1, .int v1), (2, .int v2), (3, .int v3)] [.int t0] σ (fX10_as_J57 N v1 v2 v3 t0 σ) := by
  show JF X o 6 57 [(0, .ref (xa X 85)), (1, .int v1), (2, .int v2), (3, .int v3)] [.int t0] σ (if v2 = 0 then fX10_as_J88 N v1 v3 σ else if t0 = 0 then if v2 = 3 then if 2 ≤ v3 then fX10_as_J88 N v1 v3 σ else fX10_as_J78 N v1 v2 v3 σ else fX10_as_J78 N v1 v2 v3 σ else fX10_as_J88 N v1 v3 σ)
  refine j_istore (pc := 57) (lv1 := [(4, .int t0), (0, .ref (xa X 85)), (1, .int v1), (2, .int v2), (3, .int v3)]) E dX10_as_57 (by decide) rfl ?_
  refine j_iload_n (pc := 59) rfl 3 rfl E dX10_as_59 ?_
  refine j_if_eq (pc := 60) (tgt := 88) E dX10_as_60 (by decide) ?_ ?_
  · refine JF.sub [1, 2, 4] rfl ?_
    exact lX10_as_J88 N v1 v3 E R σ
  · refine j_iload (pc := 63) 0 rfl E dX10_as_63 ?_
    refine j_if_ne (pc := 65) (tgt := 88) E dX10_as_65 (by decide) ?_ ?_
    · refine j_iload_n (pc := 68) rfl 3 rfl E dX10_as_68 ?_
      refine j_iconst (pc := 69) (v := 3) (by decide) E dX10_as_69 ?_
      refine j_icmp_ne (pc := 70) (tgt := 78) E dX10_as_70 (by decide) ?_ ?_
      · refine j_iload_n (pc := 73) rfl 4 rfl E dX10_as_73 ?_
        refine j_iconst (pc := 74) (v := 2) (by decide) E dX10_as_74 ?_
        refine j_icmp_ge (pc := 75) (tgt := 88) E dX10_as_75 (by decide) ?_ ?_
        · refine JF.sub [1, 2, 4] rfl ?_
          exact lX10_as_J88 N v1 v3 E R σ
        · refine JF.sub [1, 2, 3, 4] rfl ?_
          exact lX10_as_J78 N v1 v2 v3 E R σ
      · refine JF.sub [1, 2, 3, 4] rfl ?_
        exact lX10_as_J78 N v1 v2 v3 E R σ
    · refine JF.sub [1, 2, 4] rfl ?_
      exact lX10_as_J88 N v1 v3 E R σ
def fX10_as_J56 (N : Nat) (v1 : Int32) (v2 : Int32) (v3 : Int32) (σ : XS) : Option XO := fX10_as_J57 N v1 v2 v3 0 σ
set_option maxRecDepth 100000 in
set_option maxHeartbeats 4000000 in
theorem lX10_as_J56 (N : Nat) (v1 : Int32) (v2 : Int32) (v3 : Int32) {X : XC} {o : XO} (E : XE X cX10_as RX10 6 2 46) (R : XI X o cX10_as) (σ : XS) : JF X o 6 56 [(0, .ref (xa X 85)), (1, .int v1), (2, .int v2), (3, .int v3)] [] σ (fX10_as_J56 N v1 v2 v3 σ) := by
  show JF X o 6 56 [(0, .ref (xa X 85)), (1, .int v1), (2, .int v2), (3, .int v3)] [] σ (fX10_as_J57 N v1 v2 v3 0 σ)
  refine j_iconst (pc := 56) (v := 0) (by decide) E dX10_as_56 ?_
  refine JF.sub [0, 1, 2, 3] rfl ?_
  exact lX10_as_J57 N v1 v2 v3 0 E R σ
def fX10_as_J52 (N : Nat) (v1 : Int32) (v2 : Int32) (v3 : Int32) (σ : XS) : Option XO := fX10_as_J57 N v1 v2 v3 1 σ
set_option maxRecDepth 100000 in
set_option maxHeartbeats 4000000 in
theorem lX10_as_J52 (N : Nat) (v1 : Int32) (v2 : Int32) (v3 : Int32) {X : XC} {o : XO} (E : XE X cX10_as RX10 6 2 46) (R : XI X o cX10_as) (σ : XS) : JF X o 6 52 [(0, .ref (xa X 85)), (1, .int v1), (2, .int v2), (3, .int v3)] [] σ (fX10_as_J52 N v1 v2 v3 σ) := by
  show JF X o 6 52 [(0, .ref (xa X 85)), (1, .int v1), (2, .int v2), (3, .int v3)] [] σ (fX10_as_J57 N v1 v2 v3 1 σ)
  refine j_iconst (pc := 52) (v := 1) (by decide) E dX10_as_52 ?_
  refine j_goto (pc := 53) (tgt := 57) E dX10_as_53 (by decide) ?_
  refine JF.sub [0, 1, 2, 3] rfl ?_
  exact lX10_as_J57 N v1 v2 v3 1 E R σ
def fX10_as_J42 (N : Nat) (v1 : Int32) (v2 : Int32) (v3 : Int32) (σ : XS) : Option XO := if v2 = 2 then if v3 = 1 then fX10_as_J52 N v1 v2 v3 σ else fX10_as_J56 N v1 v2 v3 σ else fX10_as_J56 N v1 v2 v3 σ
set_option maxRecDepth 100000 in
set_option maxHeartbeats 4000000 in
theorem lX10_as_J42 (N : Nat) (v1 : Int32) (v2 : Int32) (v3 : Int32) {X : XC} {o : XO} (E : XE X cX10_as RX10 6 2 46) (R : XI X o cX10_as) (σ : XS) : JF X o 6 42 [(0, .ref (xa X 85)), (1, .int v1), (2, .int v2), (3, .int v3)] [] σ (fX10_as_J42 N v1 v2 v3 σ) := by
  show JF X o 6 42 [(0, .ref (xa X 85)), (1, .int v1), (2, .int v2), (3, .int v3)] [] σ (if v2 = 2 then if v3 = 1 then fX10_as_J52 N v1 v2 v3 σ else fX10_as_J56 N v1 v2 v3 σ else fX10_as_J56 N v1 v2 v3 σ)
  refine j_iload_n (pc := 42) rfl 2 rfl E dX10_as_42 ?_
  refine j_iconst (pc := 43) (v := 2) (by decide) E dX10_as_43 ?_
  refine j_icmp_ne (pc := 44) (tgt := 56) E dX10_as_44 (by decide) ?_ ?_
  · refine j_iload_n (pc := 47) rfl 3 rfl E dX10_as_47 ?_
    refine j_iconst (pc := 48) (v := 1) (by decide) E dX10_as_48 ?_
    refine j_icmp_ne (pc := 49) (tgt := 56) E dX10_as_49 (by decide) ?_ ?_
    · refine JF.sub [0, 1, 2, 3] rfl ?_
      exact lX10_as_J52 N v1 v2 v3 E R σ
    · refine JF.sub [0, 1, 2, 3] rfl ?_
      exact lX10_as_J56 N v1 v2 v3 E R σ
  · refine JF.sub [0, 1, 2, 3] rfl ?_
    exact lX10_as_J56 N v1 v2 v3 E R σ
def fX10_as (N : Nat) (σ : XS) (p1 : Int32) (p2 : Int32) : Option XO := xB (fX10_isWord N σ p1) (fun y1 m2 => if y1 = 0 then some ((-2), m2) else xB (fX10_in N m2 p2.toInt64 0 4) (fun y4 m5 => if y4 = 0 then some ((-3), m5) else xB (fX10_kindOf N m5 p1) (fun y7 m8 => if p2 = 1 then if y7 < 2 then fX10_as_J52 N p1 p2 y7 m8 else fX10_as_J42 N p1 p2 y7 m8 else fX10_as_J42 N p1 p2 y7 m8)))
set_option maxRecDepth 100000 in
set_option maxHeartbeats 4000000 in
theorem kX10_as {N : Nat} {σ : XS} {p1 : Int32} {p2 : Int32} {o : XO} (h : fX10_as N σ p1 p2 = some o) : CtI yX10_as cX10_as 6 (some .int) 2 46 (fun Am ad => [.ref (Am 85), .int p1, .int p2]) σ o := by
  refine ct_int (by decide) (fun _ _ => Nat.le_of_ble_eq_true rfl) (fun X E R => ?_)
  rw [← h]
  show JF X o 6 0 [(0, .ref (xa X 85)), (1, .int p1), (2, .int p2)] [] σ (xB (fX10_isWord N σ p1) (fun y1 m2 => if y1 = 0 then some ((-2), m2) else xB (fX10_in N m2 p2.toInt64 0 4) (fun y4 m5 => if y4 = 0 then some ((-3), m5) else xB (fX10_kindOf N m5 p1) (fun y7 m8 => if p2 = 1 then if y7 < 2 then fX10_as_J52 N p1 p2 y7 m8 else fX10_as_J42 N p1 p2 y7 m8 else fX10_as_J42 N p1 p2 y7 m8))))
  refine j_aload_n (pc := 0) rfl 0 rfl E dX10_as_0 ?_
  refine j_iload_n (pc := 1) rfl 1 rfl E dX10_as_1 ?_
  refine JF.xb (fun y1 m2 h3 => ?_)
  refine j_callVi (pc := 2) (st := []) E (kX10_isWord h3) mv_X10_isWord rfl s_85 q_1233 [.int p1] rfl rfl rfl (by decide) (Nat.le_of_ble_eq_true rfl) dX10_as_2 ?_
  refine j_if_ne (pc := 5) (tgt := 11) E dX10_as_5 (by decide) ?_ ?_
  · refine j_bipush (pc := 8) (v := (-2)) (by decide) E dX10_as_8 ?_
    exact j_iret (pc := 10) E R dX10_as_10
  · refine j_iload_n (pc := 11) rfl 2 rfl E dX10_as_11 ?_
    refine j_i2l (pc := 12) E dX10_as_12 ?_
    refine j_lconst (pc := 13) (v := 0) (by decide) E dX10_as_13 ?_
    refine j_ldc2 (pc := 14) (v := 4) E q_1268 dX10_as_14 ?_
    refine JF.xb (fun y4 m5 h6 => ?_)
    refine j_callSi (pc := 17) (st := []) E (kX10_in h6) mv_X10_in q_1079 [.long p2.toInt64, .long 0, .long 4] rfl rfl rfl (by decide) (Nat.le_of_ble_eq_true rfl) dX10_as_17 ?_
    refine j_if_ne (pc := 20) (tgt := 26) E dX10_as_20 (by decide) ?_ ?_
    · refine j_bipush (pc := 23) (v := (-3)) (by decide) E dX10_as_23 ?_
      exact j_iret (pc := 25) E R dX10_as_25
    · refine j_aload_n (pc := 26) rfl 0 rfl E dX10_as_26 ?_
      refine j_iload_n (pc := 27) rfl 1 rfl E dX10_as_27 ?_
      refine JF.xb (fun y7 m8 h9 => ?_)
      refine j_callVi (pc := 28) (st := []) E (kX10_kindOf h9) mv_X10_kindOf rfl s_85 q_1269 [.int p1] rfl rfl rfl (by decide) (Nat.le_of_ble_eq_true rfl) dX10_as_28 ?_
      refine j_istore_n (pc := 31) (lv1 := [(3, .int y7), (0, .ref (xa X 85)), (1, .int p1), (2, .int p2)]) E dX10_as_31 rfl (by decide) rfl ?_
      refine j_iload_n (pc := 32) rfl 3 rfl E dX10_as_32 ?_
      refine j_iconst (pc := 33) (v := 1) (by decide) E dX10_as_33 ?_
      refine j_icmp_ne (pc := 34) (tgt := 42) E dX10_as_34 (by decide) ?_ ?_
      · refine j_iload_n (pc := 37) rfl 0 rfl E dX10_as_37 ?_
        refine j_iconst (pc := 38) (v := 2) (by decide) E dX10_as_38 ?_
        refine j_icmp_lt (pc := 39) (tgt := 52) E dX10_as_39 (by decide) ?_ ?_
        · refine JF.sub [1, 2, 3, 0] rfl ?_
          exact lX10_as_J52 N p1 p2 y7 E R m8
        · refine JF.sub [1, 2, 3, 0] rfl ?_
          exact lX10_as_J42 N p1 p2 y7 E R m8
      · refine JF.sub [1, 2, 3, 0] rfl ?_
        exact lX10_as_J42 N p1 p2 y7 E R m8
def fX10_syllables (N : Nat) (σ : XS) (p1 : Int32) : Option XO := gd (xin ((6 + (4 * p1)) + 1) 98) (some ((σ 86 ((6 + (4 * p1)) + 1).toNatClampNeg), σ))
set_option maxRecDepth 100000 in
set_option maxHeartbeats 4000000 in
theorem kX10_syllables {N : Nat} {σ : XS} {p1 : Int32} {o : XO} (h : fX10_syllables N σ p1 = some o) : CtI yX10_syllables cX10_syllables 2 (some .int) 0 0 (fun Am ad => [.ref (Am 85), .int p1]) σ o := by
  refine ct_int (by decide) (fun _ _ => Nat.le_of_ble_eq_true rfl) (fun X E R => ?_)
  rw [← h]
  show JF X o 2 0 [(0, .ref (xa X 85)), (1, .int p1)] [] σ (gd (xin ((6 + (4 * p1)) + 1) 98) (some ((σ 86 ((6 + (4 * p1)) + 1).toNatClampNeg), σ)))
  refine j_aload_n (pc := 0) rfl 0 rfl E dX10_syllables_0 ?_
  refine j_get (pc := 1) E xuX10 rfl s_85 (k := 0) (by decide) q_1082 rfl (xflds_ref rfl) dX10_syllables_1 ?_
  refine j_bipush (pc := 4) (v := 6) (by decide) E dX10_syllables_4 ?_
  refine j_iconst (pc := 6) (v := 4) (by decide) E dX10_syllables_6 ?_
  refine j_iload_n (pc := 7) rfl 1 rfl E dX10_syllables_7 ?_
  refine j_imul (pc := 8) E dX10_syllables_8 ?_
  refine j_iadd (pc := 9) E dX10_syllables_9 ?_
  refine j_iconst (pc := 10) (v := 1) (by decide) E dX10_syllables_10 ?_
  refine j_iadd (pc := 11) E dX10_syllables_11 ?_
  refine j_iald (pc := 12) E s_86 dX10_syllables_12 ?_
  exact j_iret (pc := 13) E R dX10_syllables_13
def fX10_toldOf_L5 (N : Nat) (v2 : Int32) (r1 : Nat) (k28 : Int32 → XS → Option XO) : Nat → Int32 → Int32 → XS → Option XO
  | 0, _, _, _ => none
  | n + 1, v3, v4, σ => if v2 ≤ v4 then k28 v3 σ else gd (xin v4 (xlen r1)) (xB (fX10_syllables N σ (σ r1 v4.toNatClampNeg)) (fun y1 m2 => fX10_toldOf_L5 N v2 r1 k28 n (v3 + y1) (v4 + 1) m2))
set_option maxRecDepth 100000 in
set_option maxHeartbeats 4000000 in
theorem lX10_toldOf_L5 (N : Nat) (v2 : Int32) (r1 : Nat) (k28 : Int32 → XS → Option XO) {X : XC} {o : XO} (E : XE X cX10_toldOf RX10 5 1 21) (R : XI X o cX10_toldOf) (hr1 : xRow r1) (K28 : ∀ (v3 : Int32) (σ : XS), JF X o 5 28 [(3, .int v3)] [] σ (k28 v3 σ)) : ∀ (n : Nat) (v3 : Int32) (v4 : Int32) (σ : XS), JF X o 5 5 [(0, .ref (xa X 85)), (1, .ref (xa X r1)), (2, .int v2), (3, .int v3), (4, .int v4)] [] σ (fX10_toldOf_L5 N v2 r1 k28 n v3 v4 σ) := by
  intro n
  induction n with
  | zero => intro v3 v4 σ; exact JF.none
  | succ n ih =>
    intro v3 v4 σ
    show JF X o 5 5 [(0, .ref (xa X 85)), (1, .ref (xa X r1)), (2, .int v2), (3, .int v3), (4, .int v4)] [] σ (if v2 ≤ v4 then k28 v3 σ else gd (xin v4 (xlen r1)) (xB (fX10_syllables N σ (σ r1 v4.toNatClampNeg)) (fun y1 m2 => fX10_toldOf_L5 N v2 r1 k28 n (v3 + y1) (v4 + 1) m2)))
    refine j_iload (pc := 5) 4 rfl E dX10_toldOf_5 ?_
    refine j_iload_n (pc := 7) rfl 2 rfl E dX10_toldOf_7 ?_
    refine j_icmp_ge (pc := 8) (tgt := 28) E dX10_toldOf_8 (by decide) ?_ ?_
    · refine JF.sub [3] rfl ?_
      exact K28 v3 σ
    · refine j_iload_n (pc := 11) rfl 3 rfl E dX10_toldOf_11 ?_
      refine j_aload_n (pc := 12) rfl 0 rfl E dX10_toldOf_12 ?_
      refine j_aload_n (pc := 13) rfl 1 rfl E dX10_toldOf_13 ?_
      refine j_iload (pc := 14) 4 rfl E dX10_toldOf_14 ?_
      refine j_iald (pc := 16) E hr1 dX10_toldOf_16 ?_
      refine JF.xb (fun y1 m2 h3 => ?_)
      refine j_callVi (pc := 17) (st := [.int v3]) E (kX10_syllables h3) mv_X10_syllables rfl s_85 q_1285 [.int (σ r1 v4.toNatClampNeg)] rfl rfl rfl (by decide) (Nat.le_of_ble_eq_true rfl) dX10_toldOf_17 ?_
      refine j_iadd (pc := 20) E dX10_toldOf_20 ?_
      refine j_istore_n (pc := 21) (lv1 := [(3, .int (v3 + y1)), (0, .ref (xa X 85)), (1, .ref (xa X r1)), (2, .int v2), (4, .int v4)]) E dX10_toldOf_21 rfl (by decide) rfl ?_
      refine j_iinc (pc := 22) (v := (v4 + 1)) (lv1 := [(4, .int (v4 + 1)), (3, .int (v3 + y1)), (0, .ref (xa X 85)), (1, .ref (xa X r1)), (2, .int v2)]) E dX10_toldOf_22 4 rfl rfl (by decide) rfl ?_
      refine j_goto (pc := 25) (tgt := 5) E dX10_toldOf_25 (by decide) ?_
      refine JF.sub [2, 3, 4, 1, 0] rfl ?_
      exact ih (v3 + y1) (v4 + 1) m2
def fX10_toldOf (N : Nat) (σ : XS) (r1 : Nat) (p2 : Int32) : Option XO := fX10_toldOf_L5 N p2 r1 (fun x4 m5 => some (x4, m5)) N 0 0 σ
set_option maxRecDepth 100000 in
set_option maxHeartbeats 4000000 in
theorem kX10_toldOf {N : Nat} {σ : XS} {r1 : Nat} {p2 : Int32} {o : XO} (hr1 : xRow r1) (h : fX10_toldOf N σ r1 p2 = some o) : CtI yX10_toldOf cX10_toldOf 5 (some .int) 1 21 (fun Am ad => [.ref (Am 85), .ref (Am r1), .int p2]) σ o := by
  refine ct_int (by decide) (fun _ _ => Nat.le_of_ble_eq_true rfl) (fun X E R => ?_)
  rw [← h]
  show JF X o 5 0 [(0, .ref (xa X 85)), (1, .ref (xa X r1)), (2, .int p2)] [] σ (fX10_toldOf_L5 N p2 r1 (fun x4 m5 => some (x4, m5)) N 0 0 σ)
  refine j_iconst (pc := 0) (v := 0) (by decide) E dX10_toldOf_0 ?_
  refine j_istore_n (pc := 1) (lv1 := [(3, .int 0), (0, .ref (xa X 85)), (1, .ref (xa X r1)), (2, .int p2)]) E dX10_toldOf_1 rfl (by decide) rfl ?_
  refine j_iconst (pc := 2) (v := 0) (by decide) E dX10_toldOf_2 ?_
  refine j_istore (pc := 3) (lv1 := [(4, .int 0), (3, .int 0), (0, .ref (xa X 85)), (1, .ref (xa X r1)), (2, .int p2)]) E dX10_toldOf_3 (by decide) rfl ?_
  refine JF.sub [2, 3, 4, 1, 0] rfl ?_
  refine lX10_toldOf_L5 N p2 r1 _ E R hr1 (fun x4 m5 => ?_) N 0 0 σ
  · refine j_iload_n (pc := 28) rfl 0 rfl E dX10_toldOf_28 ?_
    exact j_iret (pc := 29) E R dX10_toldOf_29
def fX10_countedBy_L11 (N : Nat) (v1 : Int32) (v3 : Int32) (r2 : Nat) (k52 : Int32 → XS → Option XO) : Nat → Int32 → Int32 → XS → Option XO
  | 0, _, _, _ => none
  | n + 1, v4, v5, σ => if v3 ≤ (v5 + 1) then k52 v4 σ else if v1 = 1 then gd (xin v5 (xlen r2)) (xB (fX10_kindOf N σ (σ r2 v5.toNatClampNeg)) (fun y4 m5 => if y4 = 1 then fX10_countedBy_L11 N v1 v3 r2 k52 n (v4 - 1) (v5 + 1) m5 else fX10_countedBy_L11 N v1 v3 r2 k52 n (v4 - 0) (v5 + 1) m5)) else fX10_countedBy_L11 N v1 v3 r2 k52 n (v4 - 0) (v5 + 1) σ
set_option maxRecDepth 100000 in
set_option maxHeartbeats 4000000 in
theorem lX10_countedBy_L11 (N : Nat) (v1 : Int32) (v3 : Int32) (r2 : Nat) (k52 : Int32 → XS → Option XO) {X : XC} {o : XO} (E : XE X cX10_countedBy RX10 6 2 45) (R : XI X o cX10_countedBy) (hr2 : xRow r2) (K52 : ∀ (v4 : Int32) (σ : XS), JF X o 6 52 [(4, .int v4)] [] σ (k52 v4 σ)) : ∀ (n : Nat) (v4 : Int32) (v5 : Int32) (σ : XS), JF X o 6 11 [(0, .ref (xa X 85)), (1, .int v1), (2, .ref (xa X r2)), (3, .int v3), (4, .int v4), (5, .int v5)] [] σ (fX10_countedBy_L11 N v1 v3 r2 k52 n v4 v5 σ) := by
  intro n
  induction n with
  | zero => intro v4 v5 σ; exact JF.none
  | succ n ih =>
    intro v4 v5 σ
    show JF X o 6 11 [(0, .ref (xa X 85)), (1, .int v1), (2, .ref (xa X r2)), (3, .int v3), (4, .int v4), (5, .int v5)] [] σ (if v3 ≤ (v5 + 1) then k52 v4 σ else if v1 = 1 then gd (xin v5 (xlen r2)) (xB (fX10_kindOf N σ (σ r2 v5.toNatClampNeg)) (fun y4 m5 => if y4 = 1 then fX10_countedBy_L11 N v1 v3 r2 k52 n (v4 - 1) (v5 + 1) m5 else fX10_countedBy_L11 N v1 v3 r2 k52 n (v4 - 0) (v5 + 1) m5)) else fX10_countedBy_L11 N v1 v3 r2 k52 n (v4 - 0) (v5 + 1) σ)
    refine j_iload (pc := 11) 5 rfl E dX10_countedBy_11 ?_
    refine j_iconst (pc := 13) (v := 1) (by decide) E dX10_countedBy_13 ?_
    refine j_iadd (pc := 14) E dX10_countedBy_14 ?_
    refine j_iload_n (pc := 15) rfl 3 rfl E dX10_countedBy_15 ?_
    refine j_icmp_ge (pc := 16) (tgt := 52) E dX10_countedBy_16 (by decide) ?_ ?_
    · refine JF.sub [4] rfl ?_
      exact K52 v4 σ
    · refine j_iload (pc := 19) 4 rfl E dX10_countedBy_19 ?_
      refine j_iload_n (pc := 21) rfl 1 rfl E dX10_countedBy_21 ?_
      refine j_iconst (pc := 22) (v := 1) (by decide) E dX10_countedBy_22 ?_
      refine j_icmp_ne (pc := 23) (tgt := 42) E dX10_countedBy_23 (by decide) ?_ ?_
      · refine j_aload_n (pc := 26) rfl 0 rfl E dX10_countedBy_26 ?_
        refine j_aload_n (pc := 27) rfl 2 rfl E dX10_countedBy_27 ?_
        refine j_iload (pc := 28) 5 rfl E dX10_countedBy_28 ?_
        refine j_iald (pc := 30) E hr2 dX10_countedBy_30 ?_
        refine JF.xb (fun y4 m5 h6 => ?_)
        refine j_callVi (pc := 31) (st := [.int v4]) E (kX10_kindOf h6) mv_X10_kindOf rfl s_85 q_1269 [.int (σ r2 v5.toNatClampNeg)] rfl rfl rfl (by decide) (Nat.le_of_ble_eq_true rfl) dX10_countedBy_31 ?_
        refine j_iconst (pc := 34) (v := 1) (by decide) E dX10_countedBy_34 ?_
        refine j_icmp_ne (pc := 35) (tgt := 42) E dX10_countedBy_35 (by decide) ?_ ?_
        · refine j_iconst (pc := 38) (v := 1) (by decide) E dX10_countedBy_38 ?_
          refine j_goto (pc := 39) (tgt := 43) E dX10_countedBy_39 (by decide) ?_
          refine j_isub (pc := 43) E dX10_countedBy_43 ?_
          refine j_istore (pc := 44) (lv1 := [(4, .int (v4 - 1)), (0, .ref (xa X 85)), (1, .int v1), (2, .ref (xa X r2)), (3, .int v3), (5, .int v5)]) E dX10_countedBy_44 (by decide) rfl ?_
          refine j_iinc (pc := 46) (v := (v5 + 1)) (lv1 := [(5, .int (v5 + 1)), (4, .int (v4 - 1)), (0, .ref (xa X 85)), (1, .int v1), (2, .ref (xa X r2)), (3, .int v3)]) E dX10_countedBy_46 5 rfl rfl (by decide) rfl ?_
          refine j_goto (pc := 49) (tgt := 11) E dX10_countedBy_49 (by decide) ?_
          refine JF.sub [2, 3, 4, 5, 1, 0] rfl ?_
          exact ih (v4 - 1) (v5 + 1) m5
        · refine j_iconst (pc := 42) (v := 0) (by decide) E dX10_countedBy_42 ?_
          refine j_isub (pc := 43) E dX10_countedBy_43 ?_
          refine j_istore (pc := 44) (lv1 := [(4, .int (v4 - 0)), (0, .ref (xa X 85)), (1, .int v1), (2, .ref (xa X r2)), (3, .int v3), (5, .int v5)]) E dX10_countedBy_44 (by decide) rfl ?_
          refine j_iinc (pc := 46) (v := (v5 + 1)) (lv1 := [(5, .int (v5 + 1)), (4, .int (v4 - 0)), (0, .ref (xa X 85)), (1, .int v1), (2, .ref (xa X r2)), (3, .int v3)]) E dX10_countedBy_46 5 rfl rfl (by decide) rfl ?_
          refine j_goto (pc := 49) (tgt := 11) E dX10_countedBy_49 (by decide) ?_
          refine JF.sub [2, 3, 4, 5, 1, 0] rfl ?_
          exact ih (v4 - 0) (v5 + 1) m5
      · refine j_iconst (pc := 42) (v := 0) (by decide) E dX10_countedBy_42 ?_
        refine j_isub (pc := 43) E dX10_countedBy_43 ?_
        refine j_istore (pc := 44) (lv1 := [(4, .int (v4 - 0)), (0, .ref (xa X 85)), (1, .int v1), (2, .ref (xa X r2)), (3, .int v3), (5, .int v5)]) E dX10_countedBy_44 (by decide) rfl ?_
        refine j_iinc (pc := 46) (v := (v5 + 1)) (lv1 := [(5, .int (v5 + 1)), (4, .int (v4 - 0)), (0, .ref (xa X 85)), (1, .int v1), (2, .ref (xa X r2)), (3, .int v3)]) E dX10_countedBy_46 5 rfl rfl (by decide) rfl ?_
        refine j_goto (pc := 49) (tgt := 11) E dX10_countedBy_49 (by decide) ?_
        refine JF.sub [2, 3, 4, 5, 1, 0] rfl ?_
        exact ih (v4 - 0) (v5 + 1) σ
def fX10_countedBy (N : Nat) (σ : XS) (p1 : Int32) (r2 : Nat) (p3 : Int32) : Option XO := xB (fX10_toldOf N σ r2 p3) (fun y1 m2 => fX10_countedBy_L11 N p1 p3 r2 (fun x7 m8 => some (x7, m8)) N y1 0 m2)
set_option maxRecDepth 100000 in
set_option maxHeartbeats 4000000 in
theorem kX10_countedBy {N : Nat} {σ : XS} {p1 : Int32} {r2 : Nat} {p3 : Int32} {o : XO} (hr2 : xRow r2) (h : fX10_countedBy N σ p1 r2 p3 = some o) : CtI yX10_countedBy cX10_countedBy 6 (some .int) 2 45 (fun Am ad => [.ref (Am 85), .int p1, .ref (Am r2), .int p3]) σ o := by
  refine ct_int (by decide) (fun _ _ => Nat.le_of_ble_eq_true rfl) (fun X E R => ?_)
  rw [← h]
  show JF X o 6 0 [(0, .ref (xa X 85)), (1, .int p1), (2, .ref (xa X r2)), (3, .int p3)] [] σ (xB (fX10_toldOf N σ r2 p3) (fun y1 m2 => fX10_countedBy_L11 N p1 p3 r2 (fun x7 m8 => some (x7, m8)) N y1 0 m2))
  refine j_aload_n (pc := 0) rfl 0 rfl E dX10_countedBy_0 ?_
  refine j_aload_n (pc := 1) rfl 2 rfl E dX10_countedBy_1 ?_
  refine j_iload_n (pc := 2) rfl 3 rfl E dX10_countedBy_2 ?_
  refine JF.xb (fun y1 m2 h3 => ?_)
  refine j_callVi (pc := 3) (st := []) E (kX10_toldOf hr2 h3) mv_X10_toldOf rfl s_85 q_1281 [.ref (xa X r2), .int p3] rfl rfl rfl (by decide) (Nat.le_of_ble_eq_true rfl) dX10_countedBy_3 ?_
  refine j_istore (pc := 6) (lv1 := [(4, .int y1), (0, .ref (xa X 85)), (1, .int p1), (2, .ref (xa X r2)), (3, .int p3)]) E dX10_countedBy_6 (by decide) rfl ?_
  refine j_iconst (pc := 8) (v := 0) (by decide) E dX10_countedBy_8 ?_
  refine j_istore (pc := 9) (lv1 := [(5, .int 0), (4, .int y1), (0, .ref (xa X 85)), (1, .int p1), (2, .ref (xa X r2)), (3, .int p3)]) E dX10_countedBy_9 (by decide) rfl ?_
  refine JF.sub [2, 3, 4, 5, 1, 0] rfl ?_
  refine lX10_countedBy_L11 N p1 p3 r2 _ E R hr2 (fun x7 m8 => ?_) N y1 0 m2
  · refine j_iload (pc := 52) 0 rfl E dX10_countedBy_52 ?_
    exact j_iret (pc := 54) E R dX10_countedBy_54
