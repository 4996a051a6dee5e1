def fX10_looks_L0 (N : Nat) (k24 : XS → Option XO) : Nat → XS → Option XO
  | 0, _ => none
  | n + 1, σ => xB (fX10_isAt N σ 32 32) (fun y1 m2 => if y1 = 0 then k24 m2 else xLet (xUp m2 85 12 ((m2 85 12) + 1)) (fun m4 => fX10_looks_L0 N k24 n m4))
set_option maxRecDepth 100000 in
set_option maxHeartbeats 4000000 in
theorem lX10_looks_L0 (N : Nat) (k24 : XS → Option XO) {X : XC} {o : XO} (E : XE X cX10_looks RX10 3 2 47) (R : XV X o cX10_looks) (K24 : ∀ (σ : XS), JF X o 3 24 [(0, .ref (xa X 85))] [] σ (k24 σ)) : ∀ (n : Nat) (σ : XS), JF X o 3 0 [(0, .ref (xa X 85))] [] σ (fX10_looks_L0 N k24 n σ) := by
  intro n
  induction n with
  | zero => intro σ; exact JF.none
  | succ n ih =>
    intro σ
    show JF X o 3 0 [(0, .ref (xa X 85))] [] σ (xB (fX10_isAt N σ 32 32) (fun y1 m2 => if y1 = 0 then k24 m2 else xLet (xUp m2 85 12 ((m2 85 12) + 1)) (fun m4 => fX10_looks_L0 N k24 n m4)))
    refine j_aload_n (pc := 0) rfl 0 rfl E dX10_looks_0 ?_
    refine j_bipush (pc := 1) (v := 32) (by decide) E dX10_looks_1 ?_
    refine j_bipush (pc := 3) (v := 32) (by decide) E dX10_looks_3 ?_
    refine JF.xb (fun y1 m2 h3 => ?_)
    refine j_callVi (pc := 5) (st := []) E (kX10_isAt h3) mv_X10_isAt rfl s_85 q_1185 [.int 32, .int 32] rfl rfl rfl (by decide) (Nat.le_of_ble_eq_true rfl) dX10_looks_5 ?_
    refine j_if_eq (pc := 8) (tgt := 24) E dX10_looks_8 (by decide) ?_ ?_
    · refine JF.sub [0] rfl ?_
      exact K24  m2
    · refine j_aload_n (pc := 11) rfl 0 rfl E dX10_looks_11 ?_
      refine j_dup (pc := 12) rfl E dX10_looks_12 ?_
      refine j_get (pc := 13) E xuX10 rfl s_85 (k := 12) (by decide) q_1094 rfl (xflds_int rfl) dX10_looks_13 ?_
      refine j_iconst (pc := 16) (v := 1) (by decide) E dX10_looks_16 ?_
      refine j_iadd (pc := 17) E dX10_looks_17 ?_
      refine JF.xlet (fun m4 e5 => ?_)
      refine j_put (pc := 18) E xuX10 tyX10 tyX10_ok nmX10 rfl s_85 rfl (k := 12) (by decide) q_1094 rfl rfl (ty := .int) (by decide +kernel) rfl rfl dX10_looks_18 e5 ?_
      refine j_goto (pc := 21) (tgt := 0) E dX10_looks_21 (by decide) ?_
      refine JF.sub [0] rfl ?_
      exact ih  m4
def fX10_looks_L180 (N : Nat) (k248 : XS → Option XO) : Nat → XS → Option XO
  | 0, _ => none
  | n + 1, σ => xB (fX10_isAt N σ 48 57) (fun y28 m29 => if y28 = 0 then k248 m29 else if 2 ≤ ((m29 85 12) - (m29 85 13)) then xLet (xUp m29 85 15 (m29 85 15)) (fun m31 => xLet (xUp m31 85 12 ((m31 85 12) + 1)) (fun m33 => fX10_looks_L180 N k248 n m33)) else gd (xin (m29 85 12) 160) (xLet (xUp m29 85 15 (((10 * (m29 85 15)) + (m29 92 (m29 85 12).toNatClampNeg)) - 48)) (fun m35 => xLet (xUp m35 85 12 ((m35 85 12) + 1)) (fun m37 => fX10_looks_L180 N k248 n m37))))
set_option maxRecDepth 100000 in
set_option maxHeartbeats 4000000 in
theorem lX10_looks_L180 (N : Nat) (k248 : XS → Option XO) {X : XC} {o : XO} (E : XE X cX10_looks RX10 3 2 47) (R : XV X o cX10_looks) (K248 : ∀ (σ : XS), JF X o 3 248 [(0, .ref (xa X 85))] [] σ (k248 σ)) : ∀ (n : Nat) (σ : XS), JF X o 3 180 [(0, .ref (xa X 85))] [] σ (fX10_looks_L180 N k248 n σ) := by
  intro n
  induction n with
  | zero => intro σ; exact JF.none
  | succ n ih =>
    intro σ
    show JF X o 3 180 [(0, .ref (xa X 85))] [] σ (xB (fX10_isAt N σ 48 57) (fun y28 m29 => if y28 = 0 then k248 m29 else if 2 ≤ ((m29 85 12) - (m29 85 13)) then xLet (xUp m29 85 15 (m29 85 15)) (fun m31 => xLet (xUp m31 85 12 ((m31 85 12) + 1)) (fun m33 => fX10_looks_L180 N k248 n m33)) else gd (xin (m29 85 12) 160) (xLet (xUp m29 85 15 (((10 * (m29 85 15)) + (m29 92 (m29 85 12).toNatClampNeg)) - 48)) (fun m35 => xLet (xUp m35 85 12 ((m35 85 12) + 1)) (fun m37 => fX10_looks_L180 N k248 n m37)))))
    refine j_aload_n (pc := 180) rfl 0 rfl E dX10_looks_180 ?_
    refine j_bipush (pc := 181) (v := 48) (by decide) E dX10_looks_181 ?_
    refine j_bipush (pc := 183) (v := 57) (by decide) E dX10_looks_183 ?_
    refine JF.xb (fun y28 m29 h30 => ?_)
    refine j_callVi (pc := 185) (st := []) E (kX10_isAt h30) mv_X10_isAt rfl s_85 q_1185 [.int 48, .int 57] rfl rfl rfl (by decide) (Nat.le_of_ble_eq_true rfl) dX10_looks_185 ?_
    refine j_if_eq (pc := 188) (tgt := 248) E dX10_looks_188 (by decide) ?_ ?_
    · refine JF.sub [0] rfl ?_
      exact K248  m29
    · refine j_aload_n (pc := 191) rfl 0 rfl E dX10_looks_191 ?_
      refine j_aload_n (pc := 192) rfl 0 rfl E dX10_looks_192 ?_
      refine j_get (pc := 193) E xuX10 rfl s_85 (k := 12) (by decide) q_1094 rfl (xflds_int rfl) dX10_looks_193 ?_
      refine j_aload_n (pc := 196) rfl 0 rfl E dX10_looks_196 ?_
      refine j_get (pc := 197) E xuX10 rfl s_85 (k := 13) (by decide) q_1095 rfl (xflds_int rfl) dX10_looks_197 ?_
      refine j_isub (pc := 200) E dX10_looks_200 ?_
      refine j_iconst (pc := 201) (v := 2) (by decide) E dX10_looks_201 ?_
      refine j_icmp_ge (pc := 202) (tgt := 228) E dX10_looks_202 (by decide) ?_ ?_
      · refine j_aload_n (pc := 228) rfl 0 rfl E dX10_looks_228 ?_
        refine j_get (pc := 229) E xuX10 rfl s_85 (k := 15) (by decide) q_1097 rfl (xflds_int rfl) dX10_looks_229 ?_
        refine JF.xlet (fun m31 e32 => ?_)
        refine j_put (pc := 232) E xuX10 tyX10 tyX10_ok nmX10 rfl s_85 rfl (k := 15) (by decide) q_1097 rfl rfl (ty := .int) (by decide +kernel) rfl rfl dX10_looks_232 e32 ?_
        refine j_aload_n (pc := 235) rfl 0 rfl E dX10_looks_235 ?_
        refine j_dup (pc := 236) rfl E dX10_looks_236 ?_
        refine j_get (pc := 237) E xuX10 rfl s_85 (k := 12) (by decide) q_1094 rfl (xflds_int rfl) dX10_looks_237 ?_
        refine j_iconst (pc := 240) (v := 1) (by decide) E dX10_looks_240 ?_
        refine j_iadd (pc := 241) E dX10_looks_241 ?_
        refine JF.xlet (fun m33 e34 => ?_)
        refine j_put (pc := 242) E xuX10 tyX10 tyX10_ok nmX10 rfl s_85 rfl (k := 12) (by decide) q_1094 rfl rfl (ty := .int) (by decide +kernel) rfl rfl dX10_looks_242 e34 ?_
        refine j_goto (pc := 245) (tgt := 180) E dX10_looks_245 (by decide) ?_
        refine JF.sub [0] rfl ?_
        exact ih  m33
      · refine j_bipush (pc := 205) (v := 10) (by decide) E dX10_looks_205 ?_
        refine j_aload_n (pc := 207) rfl 0 rfl E dX10_looks_207 ?_
        refine j_get (pc := 208) E xuX10 rfl s_85 (k := 15) (by decide) q_1097 rfl (xflds_int rfl) dX10_looks_208 ?_
        refine j_imul (pc := 211) E dX10_looks_211 ?_
        refine j_aload_n (pc := 212) rfl 0 rfl E dX10_looks_212 ?_
        refine j_get (pc := 213) E xuX10 rfl s_85 (k := 10) (by decide) q_1092 rfl (xflds_ref rfl) dX10_looks_213 ?_
        refine j_aload_n (pc := 216) rfl 0 rfl E dX10_looks_216 ?_
        refine j_get (pc := 217) E xuX10 rfl s_85 (k := 12) (by decide) q_1094 rfl (xflds_int rfl) dX10_looks_217 ?_
        refine j_iald (pc := 220) E s_92 dX10_looks_220 ?_
        refine j_iadd (pc := 221) E dX10_looks_221 ?_
        refine j_bipush (pc := 222) (v := 48) (by decide) E dX10_looks_222 ?_
        refine j_isub (pc := 224) E dX10_looks_224 ?_
        refine j_goto (pc := 225) (tgt := 232) E dX10_looks_225 (by decide) ?_
        refine JF.xlet (fun m35 e36 => ?_)
        refine j_put (pc := 232) E xuX10 tyX10 tyX10_ok nmX10 rfl s_85 rfl (k := 15) (by decide) q_1097 rfl rfl (ty := .int) (by decide +kernel) rfl rfl dX10_looks_232 e36 ?_
        refine j_aload_n (pc := 235) rfl 0 rfl E dX10_looks_235 ?_
        refine j_dup (pc := 236) rfl E dX10_looks_236 ?_
        refine j_get (pc := 237) E xuX10 rfl s_85 (k := 12) (by decide) q_1094 rfl (xflds_int rfl) dX10_looks_237 ?_
        refine j_iconst (pc := 240) (v := 1) (by decide) E dX10_looks_240 ?_
        refine j_iadd (pc := 241) E dX10_looks_241 ?_
        refine JF.xlet (fun m37 e38 => ?_)
        refine j_put (pc := 242) E xuX10 tyX10 tyX10_ok nmX10 rfl s_85 rfl (k := 12) (by decide) q_1094 rfl rfl (ty := .int) (by decide +kernel) rfl rfl dX10_looks_242 e38 ?_
        refine j_goto (pc := 245) (tgt := 180) E dX10_looks_245 (by decide) ?_
        refine JF.sub [0] rfl ?_
        exact ih  m37
def fX10_looks_L62 (N : Nat) (k127 : Int64 → XS → Option XO) : Nat → Int64 → XS → Option XO
  | 0, _, _ => none
  | n + 1, v1, σ => xB (fX10_isAt N σ 97 122) (fun y44 m45 => if y44 = 0 then k127 v1 m45 else if ((m45 85 12) - (m45 85 13)) ≤ 7 then gd (xin (m45 85 12) 160) (xLetL ((((32 * v1) + (m45 92 (m45 85 12).toNatClampNeg).toInt64) - 97) + 1) (fun x47 => xLet (xUp m45 85 12 ((m45 85 12) + 1)) (fun m48 => fX10_looks_L62 N k127 n x47 m48))) else xLet (xUp m45 85 12 ((m45 85 12) + 1)) (fun m50 => fX10_looks_L62 N k127 n 0 m50))
set_option maxRecDepth 100000 in
set_option maxHeartbeats 4000000 in
theorem lX10_looks_L62 (N : Nat) (k127 : Int64 → XS → Option XO) {X : XC} {o : XO} (E : XE X cX10_looks RX10 3 2 47) (R : XV X o cX10_looks) (K127 : ∀ (v1 : Int64) (σ : XS), JF X o 3 127 [(0, .ref (xa X 85)), (1, .long v1)] [] σ (k127 v1 σ)) : ∀ (n : Nat) (v1 : Int64) (σ : XS), JF X o 3 62 [(0, .ref (xa X 85)), (1, .long v1)] [] σ (fX10_looks_L62 N k127 n v1 σ) := by
  intro n
  induction n with
  | zero => intro v1 σ; exact JF.none
  | succ n ih =>
    intro v1 σ
    show JF X o 3 62 [(0, .ref (xa X 85)), (1, .long v1)] [] σ (xB (fX10_isAt N σ 97 122) (fun y44 m45 => if y44 = 0 then k127 v1 m45 else if ((m45 85 12) - (m45 85 13)) ≤ 7 then gd (xin (m45 85 12) 160) (xLetL ((((32 * v1) + (m45 92 (m45 85 12).toNatClampNeg).toInt64) - 97) + 1) (fun x47 => xLet (xUp m45 85 12 ((m45 85 12) + 1)) (fun m48 => fX10_looks_L62 N k127 n x47 m48))) else xLet (xUp m45 85 12 ((m45 85 12) + 1)) (fun m50 => fX10_looks_L62 N k127 n 0 m50)))
    refine j_aload_n (pc := 62) rfl 0 rfl E dX10_looks_62 ?_
    refine j_bipush (pc := 63) (v := 97) (by decide) E dX10_looks_63 ?_
    refine j_bipush (pc := 65) (v := 122) (by decide) E dX10_looks_65 ?_
    refine JF.xb (fun y44 m45 h46 => ?_)
    refine j_callVi (pc := 67) (st := []) E (kX10_isAt h46) mv_X10_isAt rfl s_85 q_1185 [.int 97, .int 122] rfl rfl rfl (by decide) (Nat.le_of_ble_eq_true rfl) dX10_looks_67 ?_
    refine j_if_eq (pc := 70) (tgt := 127) E dX10_looks_70 (by decide) ?_ ?_
    · refine JF.sub [0, 1] rfl ?_
      exact K127 v1 m45
    · refine j_aload_n (pc := 73) rfl 0 rfl E dX10_looks_73 ?_
      refine j_get (pc := 74) E xuX10 rfl s_85 (k := 12) (by decide) q_1094 rfl (xflds_int rfl) dX10_looks_74 ?_
      refine j_aload_n (pc := 77) rfl 0 rfl E dX10_looks_77 ?_
      refine j_get (pc := 78) E xuX10 rfl s_85 (k := 13) (by decide) q_1095 rfl (xflds_int rfl) dX10_looks_78 ?_
      refine j_isub (pc := 81) E dX10_looks_81 ?_
      refine j_bipush (pc := 82) (v := 7) (by decide) E dX10_looks_82 ?_
      refine j_icmp_le (pc := 84) (tgt := 91) E dX10_looks_84 (by decide) ?_ ?_
      · refine j_ldc2 (pc := 91) (v := 32) E q_1189 dX10_looks_91 ?_
        refine j_lload_n (pc := 94) rfl 1 rfl E dX10_looks_94 ?_
        refine j_lmul (pc := 95) E dX10_looks_95 ?_
        refine j_aload_n (pc := 96) rfl 0 rfl E dX10_looks_96 ?_
        refine j_get (pc := 97) E xuX10 rfl s_85 (k := 10) (by decide) q_1092 rfl (xflds_ref rfl) dX10_looks_97 ?_
        refine j_aload_n (pc := 100) rfl 0 rfl E dX10_looks_100 ?_
        refine j_get (pc := 101) E xuX10 rfl s_85 (k := 12) (by decide) q_1094 rfl (xflds_int rfl) dX10_looks_101 ?_
        refine j_iald (pc := 104) E s_92 dX10_looks_104 ?_
        refine j_i2l (pc := 105) E dX10_looks_105 ?_
        refine j_ladd (pc := 106) E dX10_looks_106 ?_
        refine j_ldc2 (pc := 107) (v := 97) E q_1190 dX10_looks_107 ?_
        refine j_lsub (pc := 110) E dX10_looks_110 ?_
        refine j_lconst (pc := 111) (v := 1) (by decide) E dX10_looks_111 ?_
        refine j_ladd (pc := 112) E dX10_looks_112 ?_
        refine JF.xletL (fun x47 => ?_)
        refine j_lstore_n (pc := 113) (lv1 := [(1, .long x47), (0, .ref (xa X 85))]) E dX10_looks_113 rfl (by decide) rfl ?_
        refine j_aload_n (pc := 114) rfl 1 rfl E dX10_looks_114 ?_
        refine j_dup (pc := 115) rfl E dX10_looks_115 ?_
        refine j_get (pc := 116) E xuX10 rfl s_85 (k := 12) (by decide) q_1094 rfl (xflds_int rfl) dX10_looks_116 ?_
        refine j_iconst (pc := 119) (v := 1) (by decide) E dX10_looks_119 ?_
        refine j_iadd (pc := 120) E dX10_looks_120 ?_
        refine JF.xlet (fun m48 e49 => ?_)
        refine j_put (pc := 121) E xuX10 tyX10 tyX10_ok nmX10 rfl s_85 rfl (k := 12) (by decide) q_1094 rfl rfl (ty := .int) (by decide +kernel) rfl rfl dX10_looks_121 e49 ?_
        refine j_goto (pc := 124) (tgt := 62) E dX10_looks_124 (by decide) ?_
        refine JF.sub [1, 0] rfl ?_
        exact ih x47 m48
      · refine j_lconst (pc := 87) (v := 0) (by decide) E dX10_looks_87 ?_
        refine j_goto (pc := 88) (tgt := 113) E dX10_looks_88 (by decide) ?_
        refine j_lstore_n (pc := 113) (lv1 := [(1, .long 0), (0, .ref (xa X 85))]) E dX10_looks_113 rfl (by decide) rfl ?_
        refine j_aload_n (pc := 114) rfl 1 rfl E dX10_looks_114 ?_
        refine j_dup (pc := 115) rfl E dX10_looks_115 ?_
        refine j_get (pc := 116) E xuX10 rfl s_85 (k := 12) (by decide) q_1094 rfl (xflds_int rfl) dX10_looks_116 ?_
        refine j_iconst (pc := 119) (v := 1) (by decide) E dX10_looks_119 ?_
        refine j_iadd (pc := 120) E dX10_looks_120 ?_
        refine JF.xlet (fun m50 e51 => ?_)
        refine j_put (pc := 121) E xuX10 tyX10 tyX10_ok nmX10 rfl s_85 rfl (k := 12) (by decide) q_1094 rfl rfl (ty := .int) (by decide +kernel) rfl rfl dX10_looks_121 e51 ?_
        refine j_goto (pc := 124) (tgt := 62) E dX10_looks_124 (by decide) ?_
        refine JF.sub [1, 0] rfl ?_
        exact ih 0 m50
def fX10_looks (N : Nat) (σ : XS) : Option XO := fX10_looks_L0 N (fun m6 => xLet (xUp m6 85 13 (m6 85 12)) (fun m7 => if (m7 85 12) = (m7 85 11) then xLet (xUp m7 85 14 0) (fun m66 => some (0, m66)) else xB (fX10_isAt N m7 97 122) (fun y9 m10 => if y9 = 0 then xB (fX10_isAt N m10 48 57) (fun y12 m13 => if y12 = 0 then xB (fX10_isAt N m13 59 59) (fun y15 m16 => if y15 = 0 then xLet (xUp m16 85 14 1) (fun m18 => xLet (xUp m18 85 12 ((m18 85 12) + 1)) (fun m20 => some (0, m20))) else xLet (xUp m16 85 14 3) (fun m22 => xLet (xUp m22 85 12 ((m22 85 12) + 1)) (fun m24 => some (0, m24)))) else xLet (xUp m13 85 15 0) (fun m26 => fX10_looks_L180 N (fun m39 => if ((m39 85 12) - (m39 85 13)) ≤ 2 then xLet (xUp m39 85 14 2) (fun m40 => some (0, m40)) else xLet (xUp m39 85 14 1) (fun m42 => some (0, m42))) N m26)) else fX10_looks_L62 N (fun x52 m53 => if 8 < ((m53 85 12) - (m53 85 13)) then xLet (xUp m53 85 14 1) (fun m54 => some (0, m54)) else xB (fX10_verbOf N m53 x52) (fun y56 m57 => if y56 = (-1) then xLet (xUp m57 85 14 1) (fun m64 => some (0, m64)) else xB (fX10_verbOf N m57 x52) (fun y59 m60 => xLet (xUp m60 85 14 (4 + y59)) (fun m62 => some (0, m62))))) N 0 m10))) N σ
set_option maxRecDepth 100000 in
set_option maxHeartbeats 4000000 in
theorem kX10_looks {N : Nat} {σ : XS} {o : XO} (h : fX10_looks N σ = some o) : CtV yX10_looks cX10_looks 3 none 2 47 (fun Am ad => [.ref (Am 85)]) σ o := by
  refine ct_void (by decide) (fun _ _ => Nat.le_of_ble_eq_true rfl) (fun X E R => ?_)
  rw [← h]
  show JF X o 3 0 [(0, .ref (xa X 85))] [] σ (fX10_looks_L0 N (fun m6 => xLet (xUp m6 85 13 (m6 85 12)) (fun m7 => if (m7 85 12) = (m7 85 11) then xLet (xUp m7 85 14 0) (fun m66 => some (0, m66)) else xB (fX10_isAt N m7 97 122) (fun y9 m10 => if y9 = 0 then xB (fX10_isAt N m10 48 57) (fun y12 m13 => if y12 = 0 then xB (fX10_isAt N m13 59 59) (fun y15 m16 => if y15 = 0 then xLet (xUp m16 85 14 1) (fun m18 => xLet (xUp m18 85 12 ((m18 85 12) + 1)) (fun m20 => some (0, m20))) else xLet (xUp m16 85 14 3) (fun m22 => xLet (xUp m22 85 12 ((m22 85 12) + 1)) (fun m24 => some (0, m24)))) else xLet (xUp m13 85 15 0) (fun m26 => fX10_looks_L180 N (fun m39 => if ((m39 85 12) - (m39 85 13)) ≤ 2 then xLet (xUp m39 85 14 2) (fun m40 => some (0, m40)) else xLet (xUp m39 85 14 1) (fun m42 => some (0, m42))) N m26)) else fX10_looks_L62 N (fun x52 m53 => if 8 < ((m53 85 12) - (m53 85 13)) then xLet (xUp m53 85 14 1) (fun m54 => some (0, m54)) else xB (fX10_verbOf N m53 x52) (fun y56 m57 => if y56 = (-1) then xLet (xUp m57 85 14 1) (fun m64 => some (0, m64)) else xB (fX10_verbOf N m57 x52) (fun y59 m60 => xLet (xUp m60 85 14 (4 + y59)) (fun m62 => some (0, m62))))) N 0 m10))) N σ)
  refine JF.sub [0] rfl ?_
  refine lX10_looks_L0 N _ E R (fun m6 => ?_) N σ
  · refine j_aload_n (pc := 24) rfl 0 rfl E dX10_looks_24 ?_
    refine j_aload_n (pc := 25) rfl 0 rfl E dX10_looks_25 ?_
    refine j_get (pc := 26) E xuX10 rfl s_85 (k := 12) (by decide) q_1094 rfl (xflds_int rfl) dX10_looks_26 ?_
    refine JF.xlet (fun m7 e8 => ?_)
    refine j_put (pc := 29) E xuX10 tyX10 tyX10_ok nmX10 rfl s_85 rfl (k := 13) (by decide) q_1095 rfl rfl (ty := .int) (by decide +kernel) rfl rfl dX10_looks_29 e8 ?_
    refine j_aload_n (pc := 32) rfl 0 rfl E dX10_looks_32 ?_
    refine j_get (pc := 33) E xuX10 rfl s_85 (k := 12) (by decide) q_1094 rfl (xflds_int rfl) dX10_looks_33 ?_
    refine j_aload_n (pc := 36) rfl 0 rfl E dX10_looks_36 ?_
    refine j_get (pc := 37) E xuX10 rfl s_85 (k := 11) (by decide) q_1093 rfl (xflds_int rfl) dX10_looks_37 ?_
    refine j_icmp_ne (pc := 40) (tgt := 49) E dX10_looks_40 (by decide) ?_ ?_
    · refine j_aload_n (pc := 43) rfl 0 rfl E dX10_looks_43 ?_
      refine j_iconst (pc := 44) (v := 0) (by decide) E dX10_looks_44 ?_
      refine JF.xlet (fun m66 e67 => ?_)
      refine j_put (pc := 45) E xuX10 tyX10 tyX10_ok nmX10 rfl s_85 rfl (k := 14) (by decide) q_1096 rfl rfl (ty := .int) (by decide +kernel) rfl rfl dX10_looks_45 e67 ?_
      exact j_vret (pc := 48) E R dX10_looks_48
    · refine j_aload_n (pc := 49) rfl 0 rfl E dX10_looks_49 ?_
      refine j_bipush (pc := 50) (v := 97) (by decide) E dX10_looks_50 ?_
      refine j_bipush (pc := 52) (v := 122) (by decide) E dX10_looks_52 ?_
      refine JF.xb (fun y9 m10 h11 => ?_)
      refine j_callVi (pc := 54) (st := []) E (kX10_isAt h11) mv_X10_isAt rfl s_85 q_1185 [.int 97, .int 122] rfl rfl rfl (by decide) (Nat.le_of_ble_eq_true rfl) dX10_looks_54 ?_
      refine j_if_eq (pc := 57) (tgt := 164) E dX10_looks_57 (by decide) ?_ ?_
      · refine j_aload_n (pc := 164) rfl 0 rfl E dX10_looks_164 ?_
        refine j_bipush (pc := 165) (v := 48) (by decide) E dX10_looks_165 ?_
        refine j_bipush (pc := 167) (v := 57) (by decide) E dX10_looks_167 ?_
        refine JF.xb (fun y12 m13 h14 => ?_)
        refine j_callVi (pc := 169) (st := []) E (kX10_isAt h14) mv_X10_isAt rfl s_85 q_1185 [.int 48, .int 57] rfl rfl rfl (by decide) (Nat.le_of_ble_eq_true rfl) dX10_looks_169 ?_
        refine j_if_eq (pc := 172) (tgt := 271) E dX10_looks_172 (by decide) ?_ ?_
        · refine j_aload_n (pc := 271) rfl 0 rfl E dX10_looks_271 ?_
          refine j_aload_n (pc := 272) rfl 0 rfl E dX10_looks_272 ?_
          refine j_bipush (pc := 273) (v := 59) (by decide) E dX10_looks_273 ?_
          refine j_bipush (pc := 275) (v := 59) (by decide) E dX10_looks_275 ?_
          refine JF.xb (fun y15 m16 h17 => ?_)
          refine j_callVi (pc := 277) (st := [.ref (xa X 85)]) E (kX10_isAt h17) mv_X10_isAt rfl s_85 q_1185 [.int 59, .int 59] rfl rfl rfl (by decide) (Nat.le_of_ble_eq_true rfl) dX10_looks_277 ?_
          refine j_if_eq (pc := 280) (tgt := 287) E dX10_looks_280 (by decide) ?_ ?_
          · refine j_iconst (pc := 287) (v := 1) (by decide) E dX10_looks_287 ?_
            refine JF.xlet (fun m18 e19 => ?_)
            refine j_put (pc := 288) E xuX10 tyX10 tyX10_ok nmX10 rfl s_85 rfl (k := 14) (by decide) q_1096 rfl rfl (ty := .int) (by decide +kernel) rfl rfl dX10_looks_288 e19 ?_
            refine j_aload_n (pc := 291) rfl 0 rfl E dX10_looks_291 ?_
            refine j_dup (pc := 292) rfl E dX10_looks_292 ?_
            refine j_get (pc := 293) E xuX10 rfl s_85 (k := 12) (by decide) q_1094 rfl (xflds_int rfl) dX10_looks_293 ?_
            refine j_iconst (pc := 296) (v := 1) (by decide) E dX10_looks_296 ?_
            refine j_iadd (pc := 297) E dX10_looks_297 ?_
            refine JF.xlet (fun m20 e21 => ?_)
            refine j_put (pc := 298) E xuX10 tyX10 tyX10_ok nmX10 rfl s_85 rfl (k := 12) (by decide) q_1094 rfl rfl (ty := .int) (by decide +kernel) rfl rfl dX10_looks_298 e21 ?_
            exact j_vret (pc := 301) E R dX10_looks_301
          · refine j_iconst (pc := 283) (v := 3) (by decide) E dX10_looks_283 ?_
            refine j_goto (pc := 284) (tgt := 288) E dX10_looks_284 (by decide) ?_
            refine JF.xlet (fun m22 e23 => ?_)
            refine j_put (pc := 288) E xuX10 tyX10 tyX10_ok nmX10 rfl s_85 rfl (k := 14) (by decide) q_1096 rfl rfl (ty := .int) (by decide +kernel) rfl rfl dX10_looks_288 e23 ?_
            refine j_aload_n (pc := 291) rfl 0 rfl E dX10_looks_291 ?_
            refine j_dup (pc := 292) rfl E dX10_looks_292 ?_
            refine j_get (pc := 293) E xuX10 rfl s_85 (k := 12) (by decide) q_1094 rfl (xflds_int rfl) dX10_looks_293 ?_
            refine j_iconst (pc := 296) (v := 1) (by decide) E dX10_looks_296 ?_
            refine j_iadd (pc := 297) E dX10_looks_297 ?_
            refine JF.xlet (fun m24 e25 => ?_)
            refine j_put (pc := 298) E xuX10 tyX10 tyX10_ok nmX10 rfl s_85 rfl (k := 12) (by decide) q_1094 rfl rfl (ty := .int) (by decide +kernel) rfl rfl dX10_looks_298 e25 ?_
            exact j_vret (pc := 301) E R dX10_looks_301
        · refine j_aload_n (pc := 175) rfl 0 rfl E dX10_looks_175 ?_
          refine j_iconst (pc := 176) (v := 0) (by decide) E dX10_looks_176 ?_
          refine JF.xlet (fun m26 e27 => ?_)
          refine j_put (pc := 177) E xuX10 tyX10 tyX10_ok nmX10 rfl s_85 rfl (k := 15) (by decide) q_1097 rfl rfl (ty := .int) (by decide +kernel) rfl rfl dX10_looks_177 e27 ?_
          refine JF.sub [0] rfl ?_
          refine lX10_looks_L180 N _ E R (fun m39 => ?_) N m26
          · refine j_aload_n (pc := 248) rfl 0 rfl E dX10_looks_248 ?_
            refine j_aload_n (pc := 249) rfl 0 rfl E dX10_looks_249 ?_
            refine j_get (pc := 250) E xuX10 rfl s_85 (k := 12) (by decide) q_1094 rfl (xflds_int rfl) dX10_looks_250 ?_
            refine j_aload_n (pc := 253) rfl 0 rfl E dX10_looks_253 ?_
            refine j_get (pc := 254) E xuX10 rfl s_85 (k := 13) (by decide) q_1095 rfl (xflds_int rfl) dX10_looks_254 ?_
            refine j_isub (pc := 257) E dX10_looks_257 ?_
            refine j_iconst (pc := 258) (v := 2) (by decide) E dX10_looks_258 ?_
            refine j_icmp_le (pc := 259) (tgt := 266) E dX10_looks_259 (by decide) ?_ ?_
            · refine j_iconst (pc := 266) (v := 2) (by decide) E dX10_looks_266 ?_
              refine JF.xlet (fun m40 e41 => ?_)
              refine j_put (pc := 267) E xuX10 tyX10 tyX10_ok nmX10 rfl s_85 rfl (k := 14) (by decide) q_1096 rfl rfl (ty := .int) (by decide +kernel) rfl rfl dX10_looks_267 e41 ?_
              exact j_vret (pc := 270) E R dX10_looks_270
            · refine j_iconst (pc := 262) (v := 1) (by decide) E dX10_looks_262 ?_
              refine j_goto (pc := 263) (tgt := 267) E dX10_looks_263 (by decide) ?_
              refine JF.xlet (fun m42 e43 => ?_)
              refine j_put (pc := 267) E xuX10 tyX10 tyX10_ok nmX10 rfl s_85 rfl (k := 14) (by decide) q_1096 rfl rfl (ty := .int) (by decide +kernel) rfl rfl dX10_looks_267 e43 ?_
              exact j_vret (pc := 270) E R dX10_looks_270
      · refine j_lconst (pc := 60) (v := 0) (by decide) E dX10_looks_60 ?_
        refine j_lstore_n (pc := 61) (lv1 := [(1, .long 0), (0, .ref (xa X 85))]) E dX10_looks_61 rfl (by decide) rfl ?_
        refine JF.sub [1, 0] rfl ?_
        refine lX10_looks_L62 N _ E R (fun x52 m53 => ?_) N 0 m10
        · refine j_aload_n (pc := 127) rfl 0 rfl E dX10_looks_127 ?_
          refine j_aload_n (pc := 128) rfl 0 rfl E dX10_looks_128 ?_
          refine j_get (pc := 129) E xuX10 rfl s_85 (k := 12) (by decide) q_1094 rfl (xflds_int rfl) dX10_looks_129 ?_
          refine j_aload_n (pc := 132) rfl 0 rfl E dX10_looks_132 ?_
          refine j_get (pc := 133) E xuX10 rfl s_85 (k := 13) (by decide) q_1095 rfl (xflds_int rfl) dX10_looks_133 ?_
          refine j_isub (pc := 136) E dX10_looks_136 ?_
          refine j_bipush (pc := 137) (v := 8) (by decide) E dX10_looks_137 ?_
          refine j_icmp_gt (pc := 139) (tgt := 150) E dX10_looks_139 (by decide) ?_ ?_
          · refine j_iconst (pc := 150) (v := 1) (by decide) E dX10_looks_150 ?_
            refine j_goto (pc := 151) (tgt := 160) E dX10_looks_151 (by decide) ?_
            refine JF.xlet (fun m54 e55 => ?_)
            refine j_put (pc := 160) E xuX10 tyX10 tyX10_ok nmX10 rfl s_85 rfl (k := 14) (by decide) q_1096 rfl rfl (ty := .int) (by decide +kernel) rfl rfl dX10_looks_160 e55 ?_
            exact j_vret (pc := 163) E R dX10_looks_163
          · refine j_lload_n (pc := 142) rfl 1 rfl E dX10_looks_142 ?_
            refine JF.xb (fun y56 m57 h58 => ?_)
            refine j_callSi (pc := 143) (st := [.ref (xa X 85)]) E (kX10_verbOf h58) mv_X10_verbOf q_1191 [.long x52] rfl rfl rfl (by decide) (Nat.le_of_ble_eq_true rfl) dX10_looks_143 ?_
            refine j_iconst (pc := 146) (v := (-1)) (by decide) E dX10_looks_146 ?_
            refine j_icmp_ne (pc := 147) (tgt := 154) E dX10_looks_147 (by decide) ?_ ?_
            · refine j_iconst (pc := 150) (v := 1) (by decide) E dX10_looks_150 ?_
              refine j_goto (pc := 151) (tgt := 160) E dX10_looks_151 (by decide) ?_
              refine JF.xlet (fun m64 e65 => ?_)
              refine j_put (pc := 160) E xuX10 tyX10 tyX10_ok nmX10 rfl s_85 rfl (k := 14) (by decide) q_1096 rfl rfl (ty := .int) (by decide +kernel) rfl rfl dX10_looks_160 e65 ?_
              exact j_vret (pc := 163) E R dX10_looks_163
            · refine j_iconst (pc := 154) (v := 4) (by decide) E dX10_looks_154 ?_
              refine j_lload_n (pc := 155) rfl 1 rfl E dX10_looks_155 ?_
              refine JF.xb (fun y59 m60 h61 => ?_)
              refine j_callSi (pc := 156) (st := [.int 4, .ref (xa X 85)]) E (kX10_verbOf h61) mv_X10_verbOf q_1191 [.long x52] rfl rfl rfl (by decide) (Nat.le_of_ble_eq_true rfl) dX10_looks_156 ?_
              refine j_iadd (pc := 159) E dX10_looks_159 ?_
              refine JF.xlet (fun m62 e63 => ?_)
              refine j_put (pc := 160) E xuX10 tyX10 tyX10_ok nmX10 rfl s_85 rfl (k := 14) (by decide) q_1096 rfl rfl (ty := .int) (by decide +kernel) rfl rfl dX10_looks_160 e63 ?_
              exact j_vret (pc := 163) E R dX10_looks_163
def fX10_numbers (N : Nat) (σ : XS) (p1 : Int32) : Option XO := if 3 ≤ p1 then if p1 < 6 then some (2, σ) else if p1 = 12 then some (2, σ) else some (0, σ) else some (3, σ)
set_option maxRecDepth 100000 in
set_option maxHeartbeats 4000000 in
theorem kX10_numbers {N : Nat} {σ : XS} {p1 : Int32} {o : XO} (h : fX10_numbers N σ p1 = some o) : CtI yX10_numbers cX10_numbers 1 (some .int) 0 0 (fun Am ad => [.int p1]) σ o := by
  refine ct_int (by decide) (fun _ _ => Nat.le_of_ble_eq_true rfl) (fun X E R => ?_)
  rw [← h]
  show JF X o 1 0 [(0, .int p1)] [] σ (if 3 ≤ p1 then if p1 < 6 then some (2, σ) else if p1 = 12 then some (2, σ) else some (0, σ) else some (3, σ))
  refine j_iload_n (pc := 0) rfl 0 rfl E dX10_numbers_0 ?_
  refine j_iconst (pc := 1) (v := 3) (by decide) E dX10_numbers_1 ?_
  refine j_icmp_ge (pc := 2) (tgt := 9) E dX10_numbers_2 (by decide) ?_ ?_
  · refine j_iload_n (pc := 9) rfl 0 rfl E dX10_numbers_9 ?_
    refine j_bipush (pc := 10) (v := 6) (by decide) E dX10_numbers_10 ?_
    refine j_icmp_lt (pc := 12) (tgt := 21) E dX10_numbers_12 (by decide) ?_ ?_
    · refine j_iconst (pc := 21) (v := 2) (by decide) E dX10_numbers_21 ?_
      refine j_goto (pc := 22) (tgt := 26) E dX10_numbers_22 (by decide) ?_
      exact j_iret (pc := 26) E R dX10_numbers_26
    · refine j_iload_n (pc := 15) rfl 0 rfl E dX10_numbers_15 ?_
      refine j_bipush (pc := 16) (v := 12) (by decide) E dX10_numbers_16 ?_
      refine j_icmp_ne (pc := 18) (tgt := 25) E dX10_numbers_18 (by decide) ?_ ?_
      · refine j_iconst (pc := 21) (v := 2) (by decide) E dX10_numbers_21 ?_
        refine j_goto (pc := 22) (tgt := 26) E dX10_numbers_22 (by decide) ?_
        exact j_iret (pc := 26) E R dX10_numbers_26
      · refine j_iconst (pc := 25) (v := 0) (by decide) E dX10_numbers_25 ?_
        exact j_iret (pc := 26) E R dX10_numbers_26
  · refine j_iconst (pc := 5) (v := 3) (by decide) E dX10_numbers_5 ?_
    refine j_goto (pc := 6) (tgt := 26) E dX10_numbers_6 (by decide) ?_
    exact j_iret (pc := 26) E R dX10_numbers_26
def fX10_low_J10 (N : Nat) (v0 : Int32) (v1 : Int32) (σ : XS) : Option XO := if v0 = 3 then if v1 = 0 then some (1, σ) else if v0 = 5 then if v1 = 0 then some (1, σ) else some (0, σ) else some (0, σ) else if v0 = 5 then if v1 = 0 then some (1, σ) else some (0, σ) else some (0, σ)
set_option maxRecDepth 100000 in
set_option maxHeartbeats 4000000 in
theorem lX10_low_J10 (N : Nat) (v0 : Int32) (v1 : Int32) {X : XC} {o : XO} (E : XE X cX10_low RX10 2 0 0) (R : XI X o cX10_low) (σ : XS) : JF X o 2 10 [(0, .int v0), (1, .int v1)] [] σ (fX10_low_J10 N v0 v1 σ) := by
  show JF X o 2 10 [(0, .int v0), (1, .int v1)] [] σ (if v0 = 3 then if v1 = 0 then some (1, σ) else if v0 = 5 then if v1 = 0 then some (1, σ) else some (0, σ) else some (0, σ) else if v0 = 5 then if v1 = 0 then some (1, σ) else some (0, σ) else some (0, σ))
  refine j_iload_n (pc := 10) rfl 0 rfl E dX10_low_10 ?_
  refine j_iconst (pc := 11) (v := 3) (by decide) E dX10_low_11 ?_
  refine j_icmp_ne (pc := 12) (tgt := 19) E dX10_low_12 (by decide) ?_ ?_
  · refine j_iload_n (pc := 15) rfl 1 rfl E dX10_low_15 ?_
    refine j_if_eq (pc := 16) (tgt := 28) E dX10_low_16 (by decide) ?_ ?_
    · refine j_iconst (pc := 28) (v := 1) (by decide) E dX10_low_28 ?_
      refine j_goto (pc := 29) (tgt := 33) E dX10_low_29 (by decide) ?_
      exact j_iret (pc := 33) E R dX10_low_33
    · refine j_iload_n (pc := 19) rfl 0 rfl E dX10_low_19 ?_
      refine j_iconst (pc := 20) (v := 5) (by decide) E dX10_low_20 ?_
      refine j_icmp_ne (pc := 21) (tgt := 32) E dX10_low_21 (by decide) ?_ ?_
      · refine j_iload_n (pc := 24) rfl 1 rfl E dX10_low_24 ?_
        refine j_if_ne (pc := 25) (tgt := 32) E dX10_low_25 (by decide) ?_ ?_
        · refine j_iconst (pc := 28) (v := 1) (by decide) E dX10_low_28 ?_
          refine j_goto (pc := 29) (tgt := 33) E dX10_low_29 (by decide) ?_
          exact j_iret (pc := 33) E R dX10_low_33
        · refine j_iconst (pc := 32) (v := 0) (by decide) E dX10_low_32 ?_
          exact j_iret (pc := 33) E R dX10_low_33
      · refine j_iconst (pc := 32) (v := 0) (by decide) E dX10_low_32 ?_
        exact j_iret (pc := 33) E R dX10_low_33
  · refine j_iload_n (pc := 19) rfl 0 rfl E dX10_low_19 ?_
    refine j_iconst (pc := 20) (v := 5) (by decide) E dX10_low_20 ?_
    refine j_icmp_ne (pc := 21) (tgt := 32) E dX10_low_21 (by decide) ?_ ?_
    · refine j_iload_n (pc := 24) rfl 1 rfl E dX10_low_24 ?_
      refine j_if_ne (pc := 25) (tgt := 32) E dX10_low_25 (by decide) ?_ ?_
      · refine j_iconst (pc := 28) (v := 1) (by decide) E dX10_low_28 ?_
        refine j_goto (pc := 29) (tgt := 33) E dX10_low_29 (by decide) ?_
        exact j_iret (pc := 33) E R dX10_low_33
      · refine j_iconst (pc := 32) (v := 0) (by decide) E dX10_low_32 ?_
        exact j_iret (pc := 33) E R dX10_low_33
    · refine j_iconst (pc := 32) (v := 0) (by decide) E dX10_low_32 ?_
      exact j_iret (pc := 33) E R dX10_low_33
def fX10_low (N : Nat) (σ : XS) (p1 : Int32) (p2 : Int32) : Option XO := if 3 ≤ p1 then fX10_low_J10 N p1 p2 σ else if p2 < 2 then some (1, σ) else fX10_low_J10 N p1 p2 σ
set_option maxRecDepth 100000 in
set_option maxHeartbeats 4000000 in
theorem kX10_low {N : Nat} {σ : XS} {p1 : Int32} {p2 : Int32} {o : XO} (h : fX10_low N σ p1 p2 = some o) : CtI yX10_low cX10_low 2 (some .int) 0 0 (fun Am ad => [.int p1, .int p2]) σ o := by
  refine ct_int (by decide) (fun _ _ => Nat.le_of_ble_eq_true rfl) (fun X E R => ?_)
  rw [← h]
  show JF X o 2 0 [(0, .int p1), (1, .int p2)] [] σ (if 3 ≤ p1 then fX10_low_J10 N p1 p2 σ else if p2 < 2 then some (1, σ) else fX10_low_J10 N p1 p2 σ)
  refine j_iload_n (pc := 0) rfl 0 rfl E dX10_low_0 ?_
  refine j_iconst (pc := 1) (v := 3) (by decide) E dX10_low_1 ?_
  refine j_icmp_ge (pc := 2) (tgt := 10) E dX10_low_2 (by decide) ?_ ?_
  · refine JF.sub [0, 1] rfl ?_
    exact lX10_low_J10 N p1 p2 E R σ
  · refine j_iload_n (pc := 5) rfl 1 rfl E dX10_low_5 ?_
    refine j_iconst (pc := 6) (v := 2) (by decide) E dX10_low_6 ?_
    refine j_icmp_lt (pc := 7) (tgt := 28) E dX10_low_7 (by decide) ?_ ?_
    · refine j_iconst (pc := 28) (v := 1) (by decide) E dX10_low_28 ?_
      refine j_goto (pc := 29) (tgt := 33) E dX10_low_29 (by decide) ?_
      exact j_iret (pc := 33) E R dX10_low_33
    · refine JF.sub [0, 1] rfl ?_
      exact lX10_low_J10 N p1 p2 E R σ
def fX10_high_J23 (N : Nat) (v0 : Int32) (v1 : Int32) (t0 : Int32) (σ : XS) : Option XO := if v0 = 4 then if v1 = 0 then if 4 ≤ v0 then some (3, σ) else some (t0, σ) else if 4 ≤ v0 then some (5, σ) else some (t0, σ) else if v0 = 5 then if v1 = 0 then if 4 ≤ v0 then some (12, σ) else some (t0, σ) else if 4 ≤ v0 then some (3, σ) else some (t0, σ) else if v1 = 0 then if 4 ≤ v0 then some (5, σ) else some (t0, σ) else if 4 ≤ v0 then some (9, σ) else some (t0, σ)
set_option maxRecDepth 100000 in
set_option maxHeartbeats 4000000 in
theorem lX10_high_J23 (N : Nat) (v0 : Int32) (v1 : Int32) (t0 : Int32) {X : XC} {o : XO} (E : XE X cX10_high RX10 5 0 0) (R : XI X o cX10_high) (σ : XS) : JF X o 5 23 [(0, .int v0), (1, .int v1)] [.int t0] σ (fX10_high_J23 N v0 v1 t0 σ) := by
  show JF X o 5 23 [(0, .int v0), (1, .int v1)] [.int t0] σ (if v0 = 4 then if v1 = 0 then if 4 ≤ v0 then some (3, σ) else some (t0, σ) else if 4 ≤ v0 then some (5, σ) else some (t0, σ) else if v0 = 5 then if v1 = 0 then if 4 ≤ v0 then some (12, σ) else some (t0, σ) else if 4 ≤ v0 then some (3, σ) else some (t0, σ) else if v1 = 0 then if 4 ≤ v0 then some (5, σ) else some (t0, σ) else if 4 ≤ v0 then some (9, σ) else some (t0, σ))
  refine j_istore_n (pc := 23) (lv1 := [(3, .int t0), (0, .int v0), (1, .int v1)]) E dX10_high_23 rfl (by decide) rfl ?_
  refine j_iload_n (pc := 24) rfl 1 rfl E dX10_high_24 ?_
  refine j_iconst (pc := 25) (v := 4) (by decide) E dX10_high_25 ?_
  refine j_icmp_ne (pc := 26) (tgt := 41) E dX10_high_26 (by decide) ?_ ?_
  · refine j_iload_n (pc := 29) rfl 2 rfl E dX10_high_29 ?_
    refine j_if_ne (pc := 30) (tgt := 37) E dX10_high_30 (by decide) ?_ ?_
    · refine j_iconst (pc := 33) (v := 3) (by decide) E dX10_high_33 ?_
      refine j_goto (pc := 34) (tgt := 69) E dX10_high_34 (by decide) ?_
      refine j_istore (pc := 69) (lv1 := [(4, .int 3), (3, .int t0), (0, .int v0), (1, .int v1)]) E dX10_high_69 (by decide) rfl ?_
      refine j_iload_n (pc := 71) rfl 2 rfl E dX10_high_71 ?_
      refine j_iconst (pc := 72) (v := 4) (by decide) E dX10_high_72 ?_
      refine j_icmp_ge (pc := 73) (tgt := 80) E dX10_high_73 (by decide) ?_ ?_
      · refine j_iload (pc := 80) 0 rfl E dX10_high_80 ?_
        exact j_iret (pc := 82) E R dX10_high_82
      · refine j_iload_n (pc := 76) rfl 1 rfl E dX10_high_76 ?_
        refine j_goto (pc := 77) (tgt := 82) E dX10_high_77 (by decide) ?_
        exact j_iret (pc := 82) E R dX10_high_82
    · refine j_iconst (pc := 37) (v := 5) (by decide) E dX10_high_37 ?_
      refine j_goto (pc := 38) (tgt := 69) E dX10_high_38 (by decide) ?_
      refine j_istore (pc := 69) (lv1 := [(4, .int 5), (3, .int t0), (0, .int v0), (1, .int v1)]) E dX10_high_69 (by decide) rfl ?_
      refine j_iload_n (pc := 71) rfl 2 rfl E dX10_high_71 ?_
      refine j_iconst (pc := 72) (v := 4) (by decide) E dX10_high_72 ?_
      refine j_icmp_ge (pc := 73) (tgt := 80) E dX10_high_73 (by decide) ?_ ?_
      · refine j_iload (pc := 80) 0 rfl E dX10_high_80 ?_
        exact j_iret (pc := 82) E R dX10_high_82
      · refine j_iload_n (pc := 76) rfl 1 rfl E dX10_high_76 ?_
        refine j_goto (pc := 77) (tgt := 82) E dX10_high_77 (by decide) ?_
        exact j_iret (pc := 82) E R dX10_high_82
  · refine j_iload_n (pc := 41) rfl 1 rfl E dX10_high_41 ?_
    refine j_iconst (pc := 42) (v := 5) (by decide) E dX10_high_42 ?_
    refine j_icmp_ne (pc := 43) (tgt := 59) E dX10_high_43 (by decide) ?_ ?_
    · refine j_iload_n (pc := 46) rfl 2 rfl E dX10_high_46 ?_
      refine j_if_ne (pc := 47) (tgt := 55) E dX10_high_47 (by decide) ?_ ?_
      · refine j_bipush (pc := 50) (v := 12) (by decide) E dX10_high_50 ?_
        refine j_goto (pc := 52) (tgt := 69) E dX10_high_52 (by decide) ?_
        refine j_istore (pc := 69) (lv1 := [(4, .int 12), (3, .int t0), (0, .int v0), (1, .int v1)]) E dX10_high_69 (by decide) rfl ?_
        refine j_iload_n (pc := 71) rfl 2 rfl E dX10_high_71 ?_
        refine j_iconst (pc := 72) (v := 4) (by decide) E dX10_high_72 ?_
        refine j_icmp_ge (pc := 73) (tgt := 80) E dX10_high_73 (by decide) ?_ ?_
        · refine j_iload (pc := 80) 0 rfl E dX10_high_80 ?_
          exact j_iret (pc := 82) E R dX10_high_82
        · refine j_iload_n (pc := 76) rfl 1 rfl E dX10_high_76 ?_
          refine j_goto (pc := 77) (tgt := 82) E dX10_high_77 (by decide) ?_
          exact j_iret (pc := 82) E R dX10_high_82
      · refine j_iconst (pc := 55) (v := 3) (by decide) E dX10_high_55 ?_
        refine j_goto (pc := 56) (tgt := 69) E dX10_high_56 (by decide) ?_
        refine j_istore (pc := 69) (lv1 := [(4, .int 3), (3, .int t0), (0, .int v0), (1, .int v1)]) E dX10_high_69 (by decide) rfl ?_
        refine j_iload_n (pc := 71) rfl 2 rfl E dX10_high_71 ?_
        refine j_iconst (pc := 72) (v := 4) (by decide) E dX10_high_72 ?_
        refine j_icmp_ge (pc := 73) (tgt := 80) E dX10_high_73 (by decide) ?_ ?_
        · refine j_iload (pc := 80) 0 rfl E dX10_high_80 ?_
          exact j_iret (pc := 82) E R dX10_high_82
        · refine j_iload_n (pc := 76) rfl 1 rfl E dX10_high_76 ?_
          refine j_goto (pc := 77) (tgt := 82) E dX10_high_77 (by decide) ?_
          exact j_iret (pc := 82) E R dX10_high_82
    · refine j_iload_n (pc := 59) rfl 2 rfl E dX10_high_59 ?_
      refine j_if_ne (pc := 60) (tgt := 67) E dX10_high_60 (by decide) ?_ ?_
      · refine j_iconst (pc := 63) (v := 5) (by decide) E dX10_high_63 ?_
        refine j_goto (pc := 64) (tgt := 69) E dX10_high_64 (by decide) ?_
        refine j_istore (pc := 69) (lv1 := [(4, .int 5), (3, .int t0), (0, .int v0), (1, .int v1)]) E dX10_high_69 (by decide) rfl ?_
        refine j_iload_n (pc := 71) rfl 2 rfl E dX10_high_71 ?_
        refine j_iconst (pc := 72) (v := 4) (by decide) E dX10_high_72 ?_
        refine j_icmp_ge (pc := 73) (tgt := 80) E dX10_high_73 (by decide) ?_ ?_
        · refine j_iload (pc := 80) 0 rfl E dX10_high_80 ?_
          exact j_iret (pc := 82) E R dX10_high_82
        · refine j_iload_n (pc := 76) rfl 1 rfl E dX10_high_76 ?_
          refine j_goto (pc := 77) (tgt := 82) E dX10_high_77 (by decide) ?_
          exact j_iret (pc := 82) E R dX10_high_82
      · refine j_bipush (pc := 67) (v := 9) (by decide) E dX10_high_67 ?_
        refine j_istore (pc := 69) (lv1 := [(4, .int 9), (3, .int t0), (0, .int v0), (1, .int v1)]) E dX10_high_69 (by decide) rfl ?_
        refine j_iload_n (pc := 71) rfl 2 rfl E dX10_high_71 ?_
        refine j_iconst (pc := 72) (v := 4) (by decide) E dX10_high_72 ?_
        refine j_icmp_ge (pc := 73) (tgt := 80) E dX10_high_73 (by decide) ?_ ?_
        · refine j_iload (pc := 80) 0 rfl E dX10_high_80 ?_
          exact j_iret (pc := 82) E R dX10_high_82
        · refine j_iload_n (pc := 76) rfl 1 rfl E dX10_high_76 ?_
          refine j_goto (pc := 77) (tgt := 82) E dX10_high_77 (by decide) ?_
          exact j_iret (pc := 82) E R dX10_high_82
def fX10_high_J22 (N : Nat) (v0 : Int32) (v1 : Int32) (σ : XS) : Option XO := fX10_high_J23 N v0 v1 5 σ
set_option maxRecDepth 100000 in
set_option maxHeartbeats 4000000 in
theorem lX10_high_J22 (N : Nat) (v0 : Int32) (v1 : Int32) {X : XC} {o : XO} (E : XE X cX10_high RX10 5 0 0) (R : XI X o cX10_high) (σ : XS) : JF X o 5 22 [(0, .int v0), (1, .int v1)] [] σ (fX10_high_J22 N v0 v1 σ) := by
  show JF X o 5 22 [(0, .int v0), (1, .int v1)] [] σ (fX10_high_J23 N v0 v1 5 σ)
  refine j_iconst (pc := 22) (v := 5) (by decide) E dX10_high_22 ?_
  refine JF.sub [0, 1] rfl ?_
  exact lX10_high_J23 N v0 v1 5 E R σ
def fX10_high (N : Nat) (σ : XS) (p1 : Int32) (p2 : Int32) (p3 : Int32) : Option XO := if p2 = 0 then fX10_high_J23 N p1 p2 4 σ else if p2 = 1 then if 3 ≤ p1 then fX10_high_J22 N p1 p2 σ else fX10_high_J23 N p1 p2 p3 σ else fX10_high_J22 N p1 p2 σ
set_option maxRecDepth 100000 in
set_option maxHeartbeats 4000000 in
theorem kX10_high {N : Nat} {σ : XS} {p1 : Int32} {p2 : Int32} {p3 : Int32} {o : XO} (h : fX10_high N σ p1 p2 p3 = some o) : CtI yX10_high cX10_high 5 (some .int) 0 0 (fun Am ad => [.int p1, .int p2, .int p3]) σ o := by
  refine ct_int (by decide) (fun _ _ => Nat.le_of_ble_eq_true rfl) (fun X E R => ?_)
  rw [← h]
  show JF X o 5 0 [(0, .int p1), (1, .int p2), (2, .int p3)] [] σ (if p2 = 0 then fX10_high_J23 N p1 p2 4 σ else if p2 = 1 then if 3 ≤ p1 then fX10_high_J22 N p1 p2 σ else fX10_high_J23 N p1 p2 p3 σ else fX10_high_J22 N p1 p2 σ)
  refine j_iload_n (pc := 0) rfl 1 rfl E dX10_high_0 ?_
  refine j_if_ne (pc := 1) (tgt := 8) E dX10_high_1 (by decide) ?_ ?_
  · refine j_iconst (pc := 4) (v := 4) (by decide) E dX10_high_4 ?_
    refine j_goto (pc := 5) (tgt := 23) E dX10_high_5 (by decide) ?_
    refine JF.sub [0, 1] rfl ?_
    exact lX10_high_J23 N p1 p2 4 E R σ
  · refine j_iload_n (pc := 8) rfl 1 rfl E dX10_high_8 ?_
    refine j_iconst (pc := 9) (v := 1) (by decide) E dX10_high_9 ?_
    refine j_icmp_ne (pc := 10) (tgt := 22) E dX10_high_10 (by decide) ?_ ?_
    · refine j_iload_n (pc := 13) rfl 0 rfl E dX10_high_13 ?_
      refine j_iconst (pc := 14) (v := 3) (by decide) E dX10_high_14 ?_
      refine j_icmp_ge (pc := 15) (tgt := 22) E dX10_high_15 (by decide) ?_ ?_
      · refine JF.sub [0, 1] rfl ?_
        exact lX10_high_J22 N p1 p2 E R σ
      · refine j_iload_n (pc := 18) rfl 2 rfl E dX10_high_18 ?_
        refine j_goto (pc := 19) (tgt := 23) E dX10_high_19 (by decide) ?_
        refine JF.sub [0, 1] rfl ?_
        exact lX10_high_J23 N p1 p2 p3 E R σ
    · refine JF.sub [0, 1] rfl ?_
      exact lX10_high_J22 N p1 p2 E R σ
def fX10_comes_J80 (N : Nat) (t0 : Int32) (t1 : Int32) (σ : XS) : Option XO := xLet (xUp σ 85 20 (t1 + t0)) (fun m5 => if 9 < (m5 85 18) then some (0, m5) else if 6 < (m5 85 19) then some (0, m5) else if 3 < (m5 85 20) then some (0, m5) else some (1, m5))
set_option maxRecDepth 100000 in
set_option maxHeartbeats 4000000 in
theorem lX10_comes_J80 (N : Nat) (t0 : Int32) (t1 : Int32) {X : XC} {o : XO} (E : XE X cX10_comes RX10 2 0 0) (R : XZ X o cX10_comes .boolean) (σ : XS) : JF X o 2 80 [(0, .ref (xa X 85))] [.int t0, .int t1, .ref (xa X 85)] σ (fX10_comes_J80 N t0 t1 σ) := by
  show JF X o 2 80 [(0, .ref (xa X 85))] [.int t0, .int t1, .ref (xa X 85)] σ (xLet (xUp σ 85 20 (t1 + t0)) (fun m5 => if 9 < (m5 85 18) then some (0, m5) else if 6 < (m5 85 19) then some (0, m5) else if 3 < (m5 85 20) then some (0, m5) else some (1, m5)))
  refine j_iadd (pc := 80) E dX10_comes_80 ?_
  refine JF.xlet (fun m5 e6 => ?_)
  refine j_put (pc := 81) E xuX10 tyX10 tyX10_ok nmX10 rfl s_85 rfl (k := 20) (by decide) q_1102 rfl rfl (ty := .int) (by decide +kernel) rfl rfl dX10_comes_81 e6 ?_
  refine j_aload_n (pc := 84) rfl 0 rfl E dX10_comes_84 ?_
  refine j_get (pc := 85) E xuX10 rfl s_85 (k := 18) (by decide) q_1100 rfl (xflds_int rfl) dX10_comes_85 ?_
  refine j_bipush (pc := 88) (v := 9) (by decide) E dX10_comes_88 ?_
  refine j_icmp_gt (pc := 90) (tgt := 114) E dX10_comes_90 (by decide) ?_ ?_
  · refine j_iconst (pc := 114) (v := 0) (by decide) E dX10_comes_114 ?_
    exact j_zret (pc := 115) E R rfl dX10_comes_115
  · refine j_aload_n (pc := 93) rfl 0 rfl E dX10_comes_93 ?_
    refine j_get (pc := 94) E xuX10 rfl s_85 (k := 19) (by decide) q_1101 rfl (xflds_int rfl) dX10_comes_94 ?_
    refine j_bipush (pc := 97) (v := 6) (by decide) E dX10_comes_97 ?_
    refine j_icmp_gt (pc := 99) (tgt := 114) E dX10_comes_99 (by decide) ?_ ?_
    · refine j_iconst (pc := 114) (v := 0) (by decide) E dX10_comes_114 ?_
      exact j_zret (pc := 115) E R rfl dX10_comes_115
    · refine j_aload_n (pc := 102) rfl 0 rfl E dX10_comes_102 ?_
      refine j_get (pc := 103) E xuX10 rfl s_85 (k := 20) (by decide) q_1102 rfl (xflds_int rfl) dX10_comes_103 ?_
      refine j_iconst (pc := 106) (v := 3) (by decide) E dX10_comes_106 ?_
      refine j_icmp_gt (pc := 107) (tgt := 114) E dX10_comes_107 (by decide) ?_ ?_
      · refine j_iconst (pc := 114) (v := 0) (by decide) E dX10_comes_114 ?_
        exact j_zret (pc := 115) E R rfl dX10_comes_115
      · refine j_iconst (pc := 110) (v := 1) (by decide) E dX10_comes_110 ?_
        refine j_goto (pc := 111) (tgt := 115) E dX10_comes_111 (by decide) ?_
        exact j_zret (pc := 115) E R rfl dX10_comes_115
def fX10_comes_J79 (N : Nat) (t0 : Int32) (σ : XS) : Option XO := fX10_comes_J80 N 0 t0 σ
set_option maxRecDepth 100000 in
set_option maxHeartbeats 4000000 in
theorem lX10_comes_J79 (N : Nat) (t0 : Int32) {X : XC} {o : XO} (E : XE X cX10_comes RX10 2 0 0) (R : XZ X o cX10_comes .boolean) (σ : XS) : JF X o 2 79 [(0, .ref (xa X 85))] [.int t0, .ref (xa X 85)] σ (fX10_comes_J79 N t0 σ) := by
  show JF X o 2 79 [(0, .ref (xa X 85))] [.int t0, .ref (xa X 85)] σ (fX10_comes_J80 N 0 t0 σ)
  refine j_iconst (pc := 79) (v := 0) (by decide) E dX10_comes_79 ?_
  refine JF.sub [0] rfl ?_
  exact lX10_comes_J80 N 0 t0 E R σ
def fX10_comes_J55 (N : Nat) (v1 : Int32) (t0 : Int32) (t1 : Int32) (σ : XS) : Option XO := xLet (xUp σ 85 19 (t1 + t0)) (fun m3 => if v1 ≤ 5 then fX10_comes_J79 N (m3 85 20) m3 else if 9 ≤ v1 then fX10_comes_J79 N (m3 85 20) m3 else fX10_comes_J80 N 1 (m3 85 20) m3)
set_option maxRecDepth 100000 in
set_option maxHeartbeats 4000000 in
theorem lX10_comes_J55 (N : Nat) (v1 : Int32) (t0 : Int32) (t1 : Int32) {X : XC} {o : XO} (E : XE X cX10_comes RX10 2 0 0) (R : XZ X o cX10_comes .boolean) (σ : XS) : JF X o 2 55 [(0, .ref (xa X 85)), (1, .int v1)] [.int t0, .int t1, .ref (xa X 85)] σ (fX10_comes_J55 N v1 t0 t1 σ) := by
  show JF X o 2 55 [(0, .ref (xa X 85)), (1, .int v1)] [.int t0, .int t1, .ref (xa X 85)] σ (xLet (xUp σ 85 19 (t1 + t0)) (fun m3 => if v1 ≤ 5 then fX10_comes_J79 N (m3 85 20) m3 else if 9 ≤ v1 then fX10_comes_J79 N (m3 85 20) m3 else fX10_comes_J80 N 1 (m3 85 20) m3))
  refine j_iadd (pc := 55) E dX10_comes_55 ?_
  refine JF.xlet (fun m3 e4 => ?_)
  refine j_put (pc := 56) E xuX10 tyX10 tyX10_ok nmX10 rfl s_85 rfl (k := 19) (by decide) q_1101 rfl rfl (ty := .int) (by decide +kernel) rfl rfl dX10_comes_56 e4 ?_
  refine j_aload_n (pc := 59) rfl 0 rfl E dX10_comes_59 ?_
  refine j_dup (pc := 60) rfl E dX10_comes_60 ?_
  refine j_get (pc := 61) E xuX10 rfl s_85 (k := 20) (by decide) q_1102 rfl (xflds_int rfl) dX10_comes_61 ?_
  refine j_iload_n (pc := 64) rfl 1 rfl E dX10_comes_64 ?_
  refine j_iconst (pc := 65) (v := 5) (by decide) E dX10_comes_65 ?_
  refine j_icmp_le (pc := 66) (tgt := 79) E dX10_comes_66 (by decide) ?_ ?_
  · refine JF.sub [0] rfl ?_
    exact lX10_comes_J79 N (m3 85 20) E R m3
  · refine j_iload_n (pc := 69) rfl 1 rfl E dX10_comes_69 ?_
    refine j_bipush (pc := 70) (v := 9) (by decide) E dX10_comes_70 ?_
    refine j_icmp_ge (pc := 72) (tgt := 79) E dX10_comes_72 (by decide) ?_ ?_
    · refine JF.sub [0] rfl ?_
      exact lX10_comes_J79 N (m3 85 20) E R m3
    · refine j_iconst (pc := 75) (v := 1) (by decide) E dX10_comes_75 ?_
      refine j_goto (pc := 76) (tgt := 80) E dX10_comes_76 (by decide) ?_
      refine JF.sub [0] rfl ?_
      exact lX10_comes_J80 N 1 (m3 85 20) E R m3
def fX10_comes_J36 (N : Nat) (v1 : Int32) (t0 : Int32) (t1 : Int32) (σ : XS) : Option XO := xLet (xUp σ 85 18 (t1 + t0)) (fun m1 => if v1 = 5 then fX10_comes_J55 N v1 1 (m1 85 19) m1 else fX10_comes_J55 N v1 0 (m1 85 19) m1)
set_option maxRecDepth 100000 in
set_option maxHeartbeats 4000000 in
theorem lX10_comes_J36 (N : Nat) (v1 : Int32) (t0 : Int32) (t1 : Int32) {X : XC} {o : XO} (E : XE X cX10_comes RX10 2 0 0) (R : XZ X o cX10_comes .boolean) (σ : XS) : JF X o 2 36 [(0, .ref (xa X 85)), (1, .int v1)] [.int t0, .int t1, .ref (xa X 85)] σ (fX10_comes_J36 N v1 t0 t1 σ) := by
  show JF X o 2 36 [(0, .ref (xa X 85)), (1, .int v1)] [.int t0, .int t1, .ref (xa X 85)] σ (xLet (xUp σ 85 18 (t1 + t0)) (fun m1 => if v1 = 5 then fX10_comes_J55 N v1 1 (m1 85 19) m1 else fX10_comes_J55 N v1 0 (m1 85 19) m1))
  refine j_iadd (pc := 36) E dX10_comes_36 ?_
  refine JF.xlet (fun m1 e2 => ?_)
  refine j_put (pc := 37) E xuX10 tyX10 tyX10_ok nmX10 rfl s_85 rfl (k := 18) (by decide) q_1100 rfl rfl (ty := .int) (by decide +kernel) rfl rfl dX10_comes_37 e2 ?_
  refine j_aload_n (pc := 40) rfl 0 rfl E dX10_comes_40 ?_
  refine j_dup (pc := 41) rfl E dX10_comes_41 ?_
  refine j_get (pc := 42) E xuX10 rfl s_85 (k := 19) (by decide) q_1101 rfl (xflds_int rfl) dX10_comes_42 ?_
  refine j_iload_n (pc := 45) rfl 1 rfl E dX10_comes_45 ?_
  refine j_iconst (pc := 46) (v := 5) (by decide) E dX10_comes_46 ?_
  refine j_icmp_ne (pc := 47) (tgt := 54) E dX10_comes_47 (by decide) ?_ ?_
  · refine j_iconst (pc := 50) (v := 1) (by decide) E dX10_comes_50 ?_
    refine j_goto (pc := 51) (tgt := 55) E dX10_comes_51 (by decide) ?_
    refine JF.sub [0, 1] rfl ?_
    exact lX10_comes_J55 N v1 1 (m1 85 19) E R m1
  · refine j_iconst (pc := 54) (v := 0) (by decide) E dX10_comes_54 ?_
    refine JF.sub [0, 1] rfl ?_
    exact lX10_comes_J55 N v1 0 (m1 85 19) E R m1
def fX10_comes_J21 (N : Nat) (v1 : Int32) (σ : XS) : Option XO := if 4 ≤ v1 then fX10_comes_J36 N v1 0 (σ 85 18) σ else fX10_comes_J36 N v1 1 (σ 85 18) σ
set_option maxRecDepth 100000 in
set_option maxHeartbeats 4000000 in
theorem lX10_comes_J21 (N : Nat) (v1 : Int32) {X : XC} {o : XO} (E : XE X cX10_comes RX10 2 0 0) (R : XZ X o cX10_comes .boolean) (σ : XS) : JF X o 2 21 [(0, .ref (xa X 85)), (1, .int v1)] [] σ (fX10_comes_J21 N v1 σ) := by
  show JF X o 2 21 [(0, .ref (xa X 85)), (1, .int v1)] [] σ (if 4 ≤ v1 then fX10_comes_J36 N v1 0 (σ 85 18) σ else fX10_comes_J36 N v1 1 (σ 85 18) σ)
  refine j_aload_n (pc := 21) rfl 0 rfl E dX10_comes_21 ?_
  refine j_dup (pc := 22) rfl E dX10_comes_22 ?_
  refine j_get (pc := 23) E xuX10 rfl s_85 (k := 18) (by decide) q_1100 rfl (xflds_int rfl) dX10_comes_23 ?_
  refine j_iload_n (pc := 26) rfl 1 rfl E dX10_comes_26 ?_
  refine j_iconst (pc := 27) (v := 4) (by decide) E dX10_comes_27 ?_
  refine j_icmp_ge (pc := 28) (tgt := 35) E dX10_comes_28 (by decide) ?_ ?_
  · refine j_iconst (pc := 35) (v := 0) (by decide) E dX10_comes_35 ?_
    refine JF.sub [0, 1] rfl ?_
    exact lX10_comes_J36 N v1 0 (σ 85 18) E R σ
  · refine j_iconst (pc := 31) (v := 1) (by decide) E dX10_comes_31 ?_
    refine j_goto (pc := 32) (tgt := 36) E dX10_comes_32 (by decide) ?_
    refine JF.sub [0, 1] rfl ?_
    exact lX10_comes_J36 N v1 1 (σ 85 18) E R σ
def fX10_comes (N : Nat) (σ : XS) (p1 : Int32) : Option XO := if p1 = 13 then xLet (xUp σ 85 18 0) (fun m7 => xLet (xUp m7 85 19 0) (fun m9 => xLet (xUp m9 85 20 0) (fun m11 => fX10_comes_J21 N p1 m11))) else fX10_comes_J21 N p1 σ
set_option maxRecDepth 100000 in
set_option maxHeartbeats 4000000 in
theorem kX10_comes {N : Nat} {σ : XS} {p1 : Int32} {o : XO} (h : fX10_comes N σ p1 = some o) : CtI yX10_comes cX10_comes 2 (some .boolean) 0 0 (fun Am ad => [.ref (Am 85), .int p1]) σ o := by
  refine ct_z (by decide) (fun _ _ => Nat.le_of_ble_eq_true rfl) (fun X E R => ?_)
  rw [← h]
  show JF X o 2 0 [(0, .ref (xa X 85)), (1, .int p1)] [] σ (if p1 = 13 then xLet (xUp σ 85 18 0) (fun m7 => xLet (xUp m7 85 19 0) (fun m9 => xLet (xUp m9 85 20 0) (fun m11 => fX10_comes_J21 N p1 m11))) else fX10_comes_J21 N p1 σ)
  refine j_iload_n (pc := 0) rfl 1 rfl E dX10_comes_0 ?_
  refine j_bipush (pc := 1) (v := 13) (by decide) E dX10_comes_1 ?_
  refine j_icmp_ne (pc := 3) (tgt := 21) E dX10_comes_3 (by decide) ?_ ?_
  · refine j_aload_n (pc := 6) rfl 0 rfl E dX10_comes_6 ?_
    refine j_iconst (pc := 7) (v := 0) (by decide) E dX10_comes_7 ?_
    refine JF.xlet (fun m7 e8 => ?_)
    refine j_put (pc := 8) E xuX10 tyX10 tyX10_ok nmX10 rfl s_85 rfl (k := 18) (by decide) q_1100 rfl rfl (ty := .int) (by decide +kernel) rfl rfl dX10_comes_8 e8 ?_
    refine j_aload_n (pc := 11) rfl 0 rfl E dX10_comes_11 ?_
    refine j_iconst (pc := 12) (v := 0) (by decide) E dX10_comes_12 ?_
    refine JF.xlet (fun m9 e10 => ?_)
    refine j_put (pc := 13) E xuX10 tyX10 tyX10_ok nmX10 rfl s_85 rfl (k := 19) (by decide) q_1101 rfl rfl (ty := .int) (by decide +kernel) rfl rfl dX10_comes_13 e10 ?_
    refine j_aload_n (pc := 16) rfl 0 rfl E dX10_comes_16 ?_
    refine j_iconst (pc := 17) (v := 0) (by decide) E dX10_comes_17 ?_
    refine JF.xlet (fun m11 e12 => ?_)
    refine j_put (pc := 18) E xuX10 tyX10 tyX10_ok nmX10 rfl s_85 rfl (k := 20) (by decide) q_1102 rfl rfl (ty := .int) (by decide +kernel) rfl rfl dX10_comes_18 e12 ?_
    refine JF.sub [0, 1] rfl ?_
    exact lX10_comes_J21 N p1 E R m11
  · refine JF.sub [0, 1] rfl ?_
    exact lX10_comes_J21 N p1 E R σ
def fX10_reads_J118 (N : Nat) (v2 : Int32) (v3 : Int32) (t0 : Int32) (k89 : Int32 → XS → Option XO) (k153 : XS → Option XO) (σ : XS) : Option XO := if (σ 85 14) = 2 then xB (fX10_low N σ v2 v3) (fun y27 m28 => xB (fX10_high N m28 v2 v3 t0) (fun y30 m31 => xB (fX10_in N m31 ((σ 85 15).toInt64) y27.toInt64 y30.toInt64) (fun y33 m34 => if y33 = 0 then k153 m34 else xLet (xUp m34 93 (((4 * (m34 85 17)) + 1) + v3).toNatClampNeg (m34 85 15)) (fun m36 => gd (xin (((4 * (m34 85 17)) + 1) + v3) 56) (xB (fX10_looks N m36) (fun _ m40 => k89 (v3 + 1) m40)))))) else k153 σ
set_option maxRecDepth 100000 in
set_option maxHeartbeats 4000000 in
theorem lX10_reads_J118 (N : Nat) (v2 : Int32) (v3 : Int32) (t0 : Int32) (k89 : Int32 → XS → Option XO) (k153 : XS → Option XO) {X : XC} {o : XO} (E : XE X cX10_reads RX10 5 3 69) (R : XZ X o cX10_reads .boolean) (K89 : ∀ (v3 : Int32) (σ : XS), JF X o 5 89 [(0, .ref (xa X 85)), (2, .int v2), (3, .int v3)] [] σ (k89 v3 σ)) (K153 : ∀ (σ : XS), JF X o 5 153 [] [] σ (k153 σ)) (σ : XS) : JF X o 5 118 [(0, .ref (xa X 85)), (2, .int v2), (3, .int v3)] [.int t0] σ (fX10_reads_J118 N v2 v3 t0 k89 k153 σ) := by
  show JF X o 5 118 [(0, .ref (xa X 85)), (2, .int v2), (3, .int v3)] [.int t0] σ (if (σ 85 14) = 2 then xB (fX10_low N σ v2 v3) (fun y27 m28 => xB (fX10_high N m28 v2 v3 t0) (fun y30 m31 => xB (fX10_in N m31 ((σ 85 15).toInt64) y27.toInt64 y30.toInt64) (fun y33 m34 => if y33 = 0 then k153 m34 else xLet (xUp m34 93 (((4 * (m34 85 17)) + 1) + v3).toNatClampNeg (m34 85 15)) (fun m36 => gd (xin (((4 * (m34 85 17)) + 1) + v3) 56) (xB (fX10_looks N m36) (fun _ m40 => k89 (v3 + 1) m40)))))) else k153 σ)
  refine j_istore (pc := 118) (lv1 := [(4, .int t0), (0, .ref (xa X 85)), (2, .int v2), (3, .int v3)]) E dX10_reads_118 (by decide) rfl ?_
  refine j_aload_n (pc := 120) rfl 1 rfl E dX10_reads_120 ?_
  refine j_get (pc := 121) E xuX10 rfl s_85 (k := 14) (by decide) q_1096 rfl (xflds_int rfl) dX10_reads_121 ?_
  refine j_iconst (pc := 124) (v := 2) (by decide) E dX10_reads_124 ?_
  refine j_icmp_ne (pc := 125) (tgt := 153) E dX10_reads_125 (by decide) ?_ ?_
  · refine j_aload_n (pc := 128) rfl 1 rfl E dX10_reads_128 ?_
    refine j_get (pc := 129) E xuX10 rfl s_85 (k := 15) (by decide) q_1097 rfl (xflds_int rfl) dX10_reads_129 ?_
    refine j_i2l (pc := 132) E dX10_reads_132 ?_
    refine j_iload_n (pc := 133) rfl 2 rfl E dX10_reads_133 ?_
    refine j_iload_n (pc := 134) rfl 3 rfl E dX10_reads_134 ?_
    refine JF.xb (fun y27 m28 h29 => ?_)
    refine j_callSi (pc := 135) (st := [.long ((σ 85 15).toInt64)]) E (kX10_low h29) mv_X10_low q_1215 [.int v2, .int v3] rfl rfl rfl (by decide) (Nat.le_of_ble_eq_true rfl) dX10_reads_135 ?_
    refine j_i2l (pc := 138) E dX10_reads_138 ?_
    refine j_iload_n (pc := 139) rfl 2 rfl E dX10_reads_139 ?_
    refine j_iload_n (pc := 140) rfl 3 rfl E dX10_reads_140 ?_
    refine j_iload (pc := 141) 0 rfl E dX10_reads_141 ?_
    refine JF.xb (fun y30 m31 h32 => ?_)
    refine j_callSi (pc := 143) (st := [.long y27.toInt64, .long ((σ 85 15).toInt64)]) E (kX10_high h32) mv_X10_high q_1218 [.int v2, .int v3, .int t0] rfl rfl rfl (by decide) (Nat.le_of_ble_eq_true rfl) dX10_reads_143 ?_
    refine j_i2l (pc := 146) E dX10_reads_146 ?_
    refine JF.xb (fun y33 m34 h35 => ?_)
    refine j_callSi (pc := 147) (st := []) E (kX10_in h35) mv_X10_in q_1079 [.long ((σ 85 15).toInt64), .long y27.toInt64, .long y30.toInt64] rfl rfl rfl (by decide) (Nat.le_of_ble_eq_true rfl) dX10_reads_147 ?_
    refine j_if_ne (pc := 150) (tgt := 155) E dX10_reads_150 (by decide) ?_ ?_
    · refine JF.sub [] rfl ?_
      exact K153  m34
    · refine j_aload_n (pc := 155) rfl 1 rfl E dX10_reads_155 ?_
      refine j_get (pc := 156) E xuX10 rfl s_85 (k := 16) (by decide) q_1098 rfl (xflds_ref rfl) dX10_reads_156 ?_
      refine j_iconst (pc := 159) (v := 4) (by decide) E dX10_reads_159 ?_
      refine j_aload_n (pc := 160) rfl 1 rfl E dX10_reads_160 ?_
      refine j_get (pc := 161) E xuX10 rfl s_85 (k := 17) (by decide) q_1099 rfl (xflds_int rfl) dX10_reads_161 ?_
      refine j_imul (pc := 164) E dX10_reads_164 ?_
      refine j_iconst (pc := 165) (v := 1) (by decide) E dX10_reads_165 ?_
      refine j_iadd (pc := 166) E dX10_reads_166 ?_
      refine j_iload_n (pc := 167) rfl 3 rfl E dX10_reads_167 ?_
      refine j_iadd (pc := 168) E dX10_reads_168 ?_
      refine j_aload_n (pc := 169) rfl 1 rfl E dX10_reads_169 ?_
      refine j_get (pc := 170) E xuX10 rfl s_85 (k := 15) (by decide) q_1097 rfl (xflds_int rfl) dX10_reads_170 ?_
      refine JF.xlet (fun m36 e37 => ?_)
      refine j_iast (pc := 173) E s_93 dX10_reads_173 e37 ?_
      refine j_aload_n (pc := 174) rfl 1 rfl E dX10_reads_174 ?_
      refine JF.xb (fun y39 m40 h41 => ?_)
      refine j_callVv (pc := 175) (st := []) E (kX10_looks h41) mv_X10_looks rfl s_85 q_1181 [] rfl rfl rfl (by decide) (Nat.le_of_ble_eq_true rfl) dX10_reads_175 ?_
      refine j_iinc (pc := 178) (v := (v3 + 1)) (lv1 := [(3, .int (v3 + 1)), (4, .int t0), (0, .ref (xa X 85)), (2, .int v2)]) E dX10_reads_178 3 rfl rfl (by decide) rfl ?_
      refine j_goto (pc := 181) (tgt := 89) E dX10_reads_181 (by decide) ?_
      refine JF.sub [2, 3, 0] rfl ?_
      exact K89 (v3 + 1) m40
  · refine JF.sub [] rfl ?_
    exact K153  σ
def fX10_reads_L89 (N : Nat) (v2 : Int32) (k153 : XS → Option XO) (k184 : XS → Option XO) : Nat → Int32 → XS → Option XO
  | 0, _, _ => none
  | n + 1, v3, σ => xB (fX10_numbers N σ v2) (fun y24 m25 => if y24 ≤ v3 then k184 m25 else if v3 = 0 then fX10_reads_J118 N v2 v3 0 (fX10_reads_L89 N v2 k153 k184 n) k153 m25 else gd (xin ((4 * (m25 85 17)) + v3) 56) (fX10_reads_J118 N v2 v3 (m25 93 ((4 * (m25 85 17)) + v3).toNatClampNeg) (fX10_reads_L89 N v2 k153 k184 n) k153 m25))
set_option maxRecDepth 100000 in
set_option maxHeartbeats 4000000 in
theorem lX10_reads_L89 (N : Nat) (v2 : Int32) (k153 : XS → Option XO) (k184 : XS → Option XO) {X : XC} {o : XO} (E : XE X cX10_reads RX10 5 3 69) (R : XZ X o cX10_reads .boolean) (K153 : ∀ (σ : XS), JF X o 5 153 [] [] σ (k153 σ)) (K184 : ∀ (σ : XS), JF X o 5 184 [(0, .ref (xa X 85))] [] σ (k184 σ)) : ∀ (n : Nat) (v3 : Int32) (σ : XS), JF X o 5 89 [(0, .ref (xa X 85)), (2, .int v2), (3, .int v3)] [] σ (fX10_reads_L89 N v2 k153 k184 n v3 σ) := by
  intro n
  induction n with
  | zero => intro v3 σ; exact JF.none
  | succ n ih =>
    intro v3 σ
    show JF X o 5 89 [(0, .ref (xa X 85)), (2, .int v2), (3, .int v3)] [] σ (xB (fX10_numbers N σ v2) (fun y24 m25 => if y24 ≤ v3 then k184 m25 else if v3 = 0 then fX10_reads_J118 N v2 v3 0 (fX10_reads_L89 N v2 k153 k184 n) k153 m25 else gd (xin ((4 * (m25 85 17)) + v3) 56) (fX10_reads_J118 N v2 v3 (m25 93 ((4 * (m25 85 17)) + v3).toNatClampNeg) (fX10_reads_L89 N v2 k153 k184 n) k153 m25)))
    refine j_iload_n (pc := 89) rfl 2 rfl E dX10_reads_89 ?_
    refine j_iload_n (pc := 90) rfl 1 rfl E dX10_reads_90 ?_
    refine JF.xb (fun y24 m25 h26 => ?_)
    refine j_callSi (pc := 91) (st := [.int v3]) E (kX10_numbers h26) mv_X10_numbers q_1212 [.int v2] rfl rfl rfl (by decide) (Nat.le_of_ble_eq_true rfl) dX10_reads_91 ?_
    refine j_icmp_ge (pc := 94) (tgt := 184) E dX10_reads_94 (by decide) ?_ ?_
    · refine JF.sub [0] rfl ?_
      exact K184  m25
    · refine j_iload_n (pc := 97) rfl 2 rfl E dX10_reads_97 ?_
      refine j_if_ne (pc := 98) (tgt := 105) E dX10_reads_98 (by decide) ?_ ?_
      · refine j_iconst (pc := 101) (v := 0) (by decide) E dX10_reads_101 ?_
        refine j_goto (pc := 102) (tgt := 118) E dX10_reads_102 (by decide) ?_
        refine JF.sub [0, 1, 2] rfl ?_
        exact lX10_reads_J118 N v2 v3 0 (fX10_reads_L89 N v2 k153 k184 n) k153 E R ih K153 m25
      · refine j_aload_n (pc := 105) rfl 0 rfl E dX10_reads_105 ?_
        refine j_get (pc := 106) E xuX10 rfl s_85 (k := 16) (by decide) q_1098 rfl (xflds_ref rfl) dX10_reads_106 ?_
        refine j_iconst (pc := 109) (v := 4) (by decide) E dX10_reads_109 ?_
        refine j_aload_n (pc := 110) rfl 0 rfl E dX10_reads_110 ?_
        refine j_get (pc := 111) E xuX10 rfl s_85 (k := 17) (by decide) q_1099 rfl (xflds_int rfl) dX10_reads_111 ?_
        refine j_imul (pc := 114) E dX10_reads_114 ?_
        refine j_iload_n (pc := 115) rfl 2 rfl E dX10_reads_115 ?_
        refine j_iadd (pc := 116) E dX10_reads_116 ?_
        refine j_iald (pc := 117) E s_93 dX10_reads_117 ?_
        refine JF.sub [0, 1, 2] rfl ?_
        exact lX10_reads_J118 N v2 v3 (m25 93 ((4 * (m25 85 17)) + v3).toNatClampNeg) (fX10_reads_L89 N v2 k153 k184 n) k153 E R ih K153 m25
def fX10_reads_J228 (N : Nat) (k46 : Int32 → XS → Option XO) (σ : XS) : Option XO := if (σ 85 14) = 3 then if (1 : Int32) = 0 then k46 1 σ else xB (fX10_looks N σ) (fun _ m49 => k46 1 m49) else if (0 : Int32) = 0 then k46 0 σ else xB (fX10_looks N σ) (fun _ m46 => k46 0 m46)
set_option maxRecDepth 100000 in
set_option maxHeartbeats 4000000 in
theorem lX10_reads_J228 (N : Nat) (k46 : Int32 → XS → Option XO) {X : XC} {o : XO} (E : XE X cX10_reads RX10 5 3 69) (R : XZ X o cX10_reads .boolean) (K46 : ∀ (v1 : Int32) (σ : XS), JF X o 5 46 [(0, .ref (xa X 85)), (1, .int v1)] [] σ (k46 v1 σ)) (σ : XS) : JF X o 5 228 [(0, .ref (xa X 85))] [] σ (fX10_reads_J228 N k46 σ) := by
  show JF X o 5 228 [(0, .ref (xa X 85))] [] σ (if (σ 85 14) = 3 then if (1 : Int32) = 0 then k46 1 σ else xB (fX10_looks N σ) (fun _ m49 => k46 1 m49) else if (0 : Int32) = 0 then k46 0 σ else xB (fX10_looks N σ) (fun _ m46 => k46 0 m46))
  refine j_aload_n (pc := 228) rfl 0 rfl E dX10_reads_228 ?_
  refine j_get (pc := 229) E xuX10 rfl s_85 (k := 14) (by decide) q_1096 rfl (xflds_int rfl) dX10_reads_229 ?_
  refine j_iconst (pc := 232) (v := 3) (by decide) E dX10_reads_232 ?_
  refine j_icmp_ne (pc := 233) (tgt := 240) E dX10_reads_233 (by decide) ?_ ?_
  · refine j_iconst (pc := 236) (v := 1) (by decide) E dX10_reads_236 ?_
    refine j_goto (pc := 237) (tgt := 241) E dX10_reads_237 (by decide) ?_
    refine j_istore_n (pc := 241) (lv1 := [(1, .int 1), (0, .ref (xa X 85))]) E dX10_reads_241 rfl (by decide) rfl ?_
    refine j_iload_n (pc := 242) rfl 0 rfl E dX10_reads_242 ?_
    refine j_if_eq (pc := 243) (tgt := 250) E dX10_reads_243 (by decide) ?_ ?_
    · refine j_goto (pc := 250) (tgt := 46) E dX10_reads_250 (by decide) ?_
      refine JF.sub [1, 0] rfl ?_
      exact K46 1 σ
    · refine j_aload_n (pc := 246) rfl 1 rfl E dX10_reads_246 ?_
      refine JF.xb (fun y48 m49 h50 => ?_)
      refine j_callVv (pc := 247) (st := []) E (kX10_looks h50) mv_X10_looks rfl s_85 q_1181 [] rfl rfl rfl (by decide) (Nat.le_of_ble_eq_true rfl) dX10_reads_247 ?_
      refine j_goto (pc := 250) (tgt := 46) E dX10_reads_250 (by decide) ?_
      refine JF.sub [1, 0] rfl ?_
      exact K46 1 m49
  · refine j_iconst (pc := 240) (v := 0) (by decide) E dX10_reads_240 ?_
    refine j_istore_n (pc := 241) (lv1 := [(1, .int 0), (0, .ref (xa X 85))]) E dX10_reads_241 rfl (by decide) rfl ?_
    refine j_iload_n (pc := 242) rfl 0 rfl E dX10_reads_242 ?_
    refine j_if_eq (pc := 243) (tgt := 250) E dX10_reads_243 (by decide) ?_ ?_
    · refine j_goto (pc := 250) (tgt := 46) E dX10_reads_250 (by decide) ?_
      refine JF.sub [1, 0] rfl ?_
      exact K46 0 σ
    · refine j_aload_n (pc := 246) rfl 1 rfl E dX10_reads_246 ?_
      refine JF.xb (fun y45 m46 h47 => ?_)
      refine j_callVv (pc := 247) (st := []) E (kX10_looks h47) mv_X10_looks rfl s_85 q_1181 [] rfl rfl rfl (by decide) (Nat.le_of_ble_eq_true rfl) dX10_reads_247 ?_
      refine j_goto (pc := 250) (tgt := 46) E dX10_reads_250 (by decide) ?_
      refine JF.sub [1, 0] rfl ?_
      exact K46 0 m46
def fX10_reads_J209 (N : Nat) (k46 : Int32 → XS → Option XO) (k226 : XS → Option XO) (σ : XS) : Option XO := if (σ 85 14) = 3 then if (σ 85 17) = 14 then k226 σ else fX10_reads_J228 N k46 σ else fX10_reads_J228 N k46 σ
set_option maxRecDepth 100000 in
set_option maxHeartbeats 4000000 in
theorem lX10_reads_J209 (N : Nat) (k46 : Int32 → XS → Option XO) (k226 : XS → Option XO) {X : XC} {o : XO} (E : XE X cX10_reads RX10 5 3 69) (R : XZ X o cX10_reads .boolean) (K46 : ∀ (v1 : Int32) (σ : XS), JF X o 5 46 [(0, .ref (xa X 85)), (1, .int v1)] [] σ (k46 v1 σ)) (K226 : ∀ (σ : XS), JF X o 5 226 [] [] σ (k226 σ)) (σ : XS) : JF X o 5 209 [(0, .ref (xa X 85))] [] σ (fX10_reads_J209 N k46 k226 σ) := by
  show JF X o 5 209 [(0, .ref (xa X 85))] [] σ (if (σ 85 14) = 3 then if (σ 85 17) = 14 then k226 σ else fX10_reads_J228 N k46 σ else fX10_reads_J228 N k46 σ)
  refine j_aload_n (pc := 209) rfl 0 rfl E dX10_reads_209 ?_
  refine j_get (pc := 210) E xuX10 rfl s_85 (k := 14) (by decide) q_1096 rfl (xflds_int rfl) dX10_reads_210 ?_
  refine j_iconst (pc := 213) (v := 3) (by decide) E dX10_reads_213 ?_
  refine j_icmp_ne (pc := 214) (tgt := 228) E dX10_reads_214 (by decide) ?_ ?_
  · refine j_aload_n (pc := 217) rfl 0 rfl E dX10_reads_217 ?_
    refine j_get (pc := 218) E xuX10 rfl s_85 (k := 17) (by decide) q_1099 rfl (xflds_int rfl) dX10_reads_218 ?_
    refine j_bipush (pc := 221) (v := 14) (by decide) E dX10_reads_221 ?_
    refine j_icmp_ne (pc := 223) (tgt := 228) E dX10_reads_223 (by decide) ?_ ?_
    · refine JF.sub [] rfl ?_
      exact K226  σ
    · refine JF.sub [0] rfl ?_
      exact lX10_reads_J228 N k46 E R K46 σ
  · refine JF.sub [0] rfl ?_
    exact lX10_reads_J228 N k46 E R K46 σ
def fX10_reads_L46 (N : Nat) (k69 : XS → Option XO) (k153 : XS → Option XO) (k226 : XS → Option XO) (k253 : XS → Option XO) : Nat → Int32 → XS → Option XO
  | 0, _, _ => none
  | n + 1, v1, σ => if v1 = 0 then k253 σ else xLetI ((σ 85 14) - 4) (fun x14 => if x14 < 0 then k69 σ else xB (fX10_comes N σ x14) (fun y15 m16 => if y15 = 0 then k69 m16 else xLet (xUp m16 93 (4 * (m16 85 17)).toNatClampNeg x14) (fun m18 => gd (xin (4 * (m16 85 17)) 56) (xB (fX10_looks N m18) (fun _ m22 => fX10_reads_L89 N x14 k153 (fun m42 => xLet (xUp m42 85 17 ((m42 85 17) + 1)) (fun m43 => if (m43 85 14) = 3 then fX10_reads_J209 N (fX10_reads_L46 N k69 k153 k226 k253 n) k226 m43 else if (m43 85 14) = 0 then fX10_reads_J209 N (fX10_reads_L46 N k69 k153 k226 k253 n) k226 m43 else k226 m43)) N 0 m22)))))
set_option maxRecDepth 100000 in
set_option maxHeartbeats 4000000 in
theorem lX10_reads_L46 (N : Nat) (k69 : XS → Option XO) (k153 : XS → Option XO) (k226 : XS → Option XO) (k253 : XS → Option XO) {X : XC} {o : XO} (E : XE X cX10_reads RX10 5 3 69) (R : XZ X o cX10_reads .boolean) (K69 : ∀ (σ : XS), JF X o 5 69 [] [] σ (k69 σ)) (K153 : ∀ (σ : XS), JF X o 5 153 [] [] σ (k153 σ)) (K226 : ∀ (σ : XS), JF X o 5 226 [] [] σ (k226 σ)) (K253 : ∀ (σ : XS), JF X o 5 253 [] [] σ (k253 σ)) : ∀ (n : Nat) (v1 : Int32) (σ : XS), JF X o 5 46 [(0, .ref (xa X 85)), (1, .int v1)] [] σ (fX10_reads_L46 N k69 k153 k226 k253 n v1 σ) := by
  intro n
  induction n with
  | zero => intro v1 σ; exact JF.none
  | succ n ih =>
    intro v1 σ
    show JF X o 5 46 [(0, .ref (xa X 85)), (1, .int v1)] [] σ (if v1 = 0 then k253 σ else xLetI ((σ 85 14) - 4) (fun x14 => if x14 < 0 then k69 σ else xB (fX10_comes N σ x14) (fun y15 m16 => if y15 = 0 then k69 m16 else xLet (xUp m16 93 (4 * (m16 85 17)).toNatClampNeg x14) (fun m18 => gd (xin (4 * (m16 85 17)) 56) (xB (fX10_looks N m18) (fun _ m22 => fX10_reads_L89 N x14 k153 (fun m42 => xLet (xUp m42 85 17 ((m42 85 17) + 1)) (fun m43 => if (m43 85 14) = 3 then fX10_reads_J209 N (fX10_reads_L46 N k69 k153 k226 k253 n) k226 m43 else if (m43 85 14) = 0 then fX10_reads_J209 N (fX10_reads_L46 N k69 k153 k226 k253 n) k226 m43 else k226 m43)) N 0 m22))))))
    refine j_iload_n (pc := 46) rfl 1 rfl E dX10_reads_46 ?_
    refine j_if_eq (pc := 47) (tgt := 253) E dX10_reads_47 (by decide) ?_ ?_
    · refine JF.sub [] rfl ?_
      exact K253  σ
    · refine j_aload_n (pc := 50) rfl 0 rfl E dX10_reads_50 ?_
      refine j_get (pc := 51) E xuX10 rfl s_85 (k := 14) (by decide) q_1096 rfl (xflds_int rfl) dX10_reads_51 ?_
      refine j_iconst (pc := 54) (v := 4) (by decide) E dX10_reads_54 ?_
      refine j_isub (pc := 55) E dX10_reads_55 ?_
      refine JF.xletI (fun x14 => ?_)
      refine j_istore_n (pc := 56) (lv1 := [(2, .int x14), (0, .ref (xa X 85)), (1, .int v1)]) E dX10_reads_56 rfl (by decide) rfl ?_
      refine j_iload_n (pc := 57) rfl 0 rfl E dX10_reads_57 ?_
      refine j_if_lt (pc := 58) (tgt := 69) E dX10_reads_58 (by decide) ?_ ?_
      · refine JF.sub [] rfl ?_
        exact K69  σ
      · refine j_aload_n (pc := 61) rfl 1 rfl E dX10_reads_61 ?_
        refine j_iload_n (pc := 62) rfl 0 rfl E dX10_reads_62 ?_
        refine JF.xb (fun y15 m16 h17 => ?_)
        refine j_callVi (pc := 63) (st := []) E (kX10_comes h17) mv_X10_comes rfl s_85 q_1208 [.int x14] rfl rfl rfl (by decide) (Nat.le_of_ble_eq_true rfl) dX10_reads_63 ?_
        refine j_if_ne (pc := 66) (tgt := 71) E dX10_reads_66 (by decide) ?_ ?_
        · refine JF.sub [] rfl ?_
          exact K69  m16
        · refine j_aload_n (pc := 71) rfl 1 rfl E dX10_reads_71 ?_
          refine j_get (pc := 72) E xuX10 rfl s_85 (k := 16) (by decide) q_1098 rfl (xflds_ref rfl) dX10_reads_72 ?_
          refine j_iconst (pc := 75) (v := 4) (by decide) E dX10_reads_75 ?_
          refine j_aload_n (pc := 76) rfl 1 rfl E dX10_reads_76 ?_
          refine j_get (pc := 77) E xuX10 rfl s_85 (k := 17) (by decide) q_1099 rfl (xflds_int rfl) dX10_reads_77 ?_
          refine j_imul (pc := 80) E dX10_reads_80 ?_
          refine j_iload_n (pc := 81) rfl 0 rfl E dX10_reads_81 ?_
          refine JF.xlet (fun m18 e19 => ?_)
          refine j_iast (pc := 82) E s_93 dX10_reads_82 e19 ?_
          refine j_aload_n (pc := 83) rfl 1 rfl E dX10_reads_83 ?_
          refine JF.xb (fun y21 m22 h23 => ?_)
          refine j_callVv (pc := 84) (st := []) E (kX10_looks h23) mv_X10_looks rfl s_85 q_1181 [] rfl rfl rfl (by decide) (Nat.le_of_ble_eq_true rfl) dX10_reads_84 ?_
          refine j_iconst (pc := 87) (v := 0) (by decide) E dX10_reads_87 ?_
          refine j_istore_n (pc := 88) (lv1 := [(3, .int 0), (2, .int x14), (0, .ref (xa X 85)), (1, .int v1)]) E dX10_reads_88 rfl (by decide) rfl ?_
          refine JF.sub [2, 1, 0] rfl ?_
          refine lX10_reads_L89 N x14 _ _ E R K153 (fun m42 => ?_) N 0 m22
          · refine j_aload_n (pc := 184) rfl 0 rfl E dX10_reads_184 ?_
            refine j_dup (pc := 185) rfl E dX10_reads_185 ?_
            refine j_get (pc := 186) E xuX10 rfl s_85 (k := 17) (by decide) q_1099 rfl (xflds_int rfl) dX10_reads_186 ?_
            refine j_iconst (pc := 189) (v := 1) (by decide) E dX10_reads_189 ?_
            refine j_iadd (pc := 190) E dX10_reads_190 ?_
            refine JF.xlet (fun m43 e44 => ?_)
            refine j_put (pc := 191) E xuX10 tyX10 tyX10_ok nmX10 rfl s_85 rfl (k := 17) (by decide) q_1099 rfl rfl (ty := .int) (by decide +kernel) rfl rfl dX10_reads_191 e44 ?_
            refine j_aload_n (pc := 194) rfl 0 rfl E dX10_reads_194 ?_
            refine j_get (pc := 195) E xuX10 rfl s_85 (k := 14) (by decide) q_1096 rfl (xflds_int rfl) dX10_reads_195 ?_
            refine j_iconst (pc := 198) (v := 3) (by decide) E dX10_reads_198 ?_
            refine j_icmp_eq (pc := 199) (tgt := 209) E dX10_reads_199 (by decide) ?_ ?_
            · refine JF.sub [0] rfl ?_
              exact lX10_reads_J209 N (fX10_reads_L46 N k69 k153 k226 k253 n) k226 E R ih K226 m43
            · refine j_aload_n (pc := 202) rfl 0 rfl E dX10_reads_202 ?_
              refine j_get (pc := 203) E xuX10 rfl s_85 (k := 14) (by decide) q_1096 rfl (xflds_int rfl) dX10_reads_203 ?_
              refine j_if_ne (pc := 206) (tgt := 226) E dX10_reads_206 (by decide) ?_ ?_
              · refine JF.sub [0] rfl ?_
                exact lX10_reads_J209 N (fX10_reads_L46 N k69 k153 k226 k253 n) k226 E R ih K226 m43
              · refine JF.sub [] rfl ?_
                exact K226  m43
def fX10_reads (N : Nat) (σ : XS) : Option XO := xLet (xUp σ 85 12 0) (fun m1 => xLet (xUp m1 85 17 0) (fun m3 => gd (xin 0 98) (xLet (xUp m3 85 18 (m3 86 (0 : Int32).toNatClampNeg)) (fun m5 => gd (xin 1 98) (xLet (xUp m5 85 19 (m5 86 (1 : Int32).toNatClampNeg)) (fun m7 => gd (xin 2 98) (xLet (xUp m7 85 20 (m7 86 (2 : Int32).toNatClampNeg)) (fun m9 => xB (fX10_looks N m9) (fun _ m12 => fX10_reads_L46 N (fun m51 => some (0, m51)) (fun m52 => some (0, m52)) (fun m53 => some (0, m53)) (fun m54 => some (1, m54)) N 1 m12)))))))))
set_option maxRecDepth 100000 in
set_option maxHeartbeats 4000000 in
theorem kX10_reads {N : Nat} {σ : XS} {o : XO} (h : fX10_reads N σ = some o) : CtI yX10_reads cX10_reads 5 (some .boolean) 3 69 (fun Am ad => [.ref (Am 85)]) σ o := by
  refine ct_z (by decide) (fun _ _ => Nat.le_of_ble_eq_true rfl) (fun X E R => ?_)
  rw [← h]
  show JF X o 5 0 [(0, .ref (xa X 85))] [] σ (xLet (xUp σ 85 12 0) (fun m1 => xLet (xUp m1 85 17 0) (fun m3 => gd (xin 0 98) (xLet (xUp m3 85 18 (m3 86 (0 : Int32).toNatClampNeg)) (fun m5 => gd (xin 1 98) (xLet (xUp m5 85 19 (m5 86 (1 : Int32).toNatClampNeg)) (fun m7 => gd (xin 2 98) (xLet (xUp m7 85 20 (m7 86 (2 : Int32).toNatClampNeg)) (fun m9 => xB (fX10_looks N m9) (fun _ m12 => fX10_reads_L46 N (fun m51 => some (0, m51)) (fun m52 => some (0, m52)) (fun m53 => some (0, m53)) (fun m54 => some (1, m54)) N 1 m12))))))))))
  refine j_aload_n (pc := 0) rfl 0 rfl E dX10_reads_0 ?_
  refine j_iconst (pc := 1) (v := 0) (by decide) E dX10_reads_1 ?_
  refine JF.xlet (fun m1 e2 => ?_)
  refine j_put (pc := 2) E xuX10 tyX10 tyX10_ok nmX10 rfl s_85 rfl (k := 12) (by decide) q_1094 rfl rfl (ty := .int) (by decide +kernel) rfl rfl dX10_reads_2 e2 ?_
  refine j_aload_n (pc := 5) rfl 0 rfl E dX10_reads_5 ?_
  refine j_iconst (pc := 6) (v := 0) (by decide) E dX10_reads_6 ?_
  refine JF.xlet (fun m3 e4 => ?_)
  refine j_put (pc := 7) E xuX10 tyX10 tyX10_ok nmX10 rfl s_85 rfl (k := 17) (by decide) q_1099 rfl rfl (ty := .int) (by decide +kernel) rfl rfl dX10_reads_7 e4 ?_
  refine j_aload_n (pc := 10) rfl 0 rfl E dX10_reads_10 ?_
  refine j_aload_n (pc := 11) rfl 0 rfl E dX10_reads_11 ?_
  refine j_get (pc := 12) E xuX10 rfl s_85 (k := 0) (by decide) q_1082 rfl (xflds_ref rfl) dX10_reads_12 ?_
  refine j_iconst (pc := 15) (v := 0) (by decide) E dX10_reads_15 ?_
  refine j_iald (pc := 16) E s_86 dX10_reads_16 ?_
  refine JF.xlet (fun m5 e6 => ?_)
  refine j_put (pc := 17) E xuX10 tyX10 tyX10_ok nmX10 rfl s_85 rfl (k := 18) (by decide) q_1100 rfl rfl (ty := .int) (by decide +kernel) rfl rfl dX10_reads_17 e6 ?_
  refine j_aload_n (pc := 20) rfl 0 rfl E dX10_reads_20 ?_
  refine j_aload_n (pc := 21) rfl 0 rfl E dX10_reads_21 ?_
  refine j_get (pc := 22) E xuX10 rfl s_85 (k := 0) (by decide) q_1082 rfl (xflds_ref rfl) dX10_reads_22 ?_
  refine j_iconst (pc := 25) (v := 1) (by decide) E dX10_reads_25 ?_
  refine j_iald (pc := 26) E s_86 dX10_reads_26 ?_
  refine JF.xlet (fun m7 e8 => ?_)
  refine j_put (pc := 27) E xuX10 tyX10 tyX10_ok nmX10 rfl s_85 rfl (k := 19) (by decide) q_1101 rfl rfl (ty := .int) (by decide +kernel) rfl rfl dX10_reads_27 e8 ?_
  refine j_aload_n (pc := 30) rfl 0 rfl E dX10_reads_30 ?_
  refine j_aload_n (pc := 31) rfl 0 rfl E dX10_reads_31 ?_
  refine j_get (pc := 32) E xuX10 rfl s_85 (k := 0) (by decide) q_1082 rfl (xflds_ref rfl) dX10_reads_32 ?_
  refine j_iconst (pc := 35) (v := 2) (by decide) E dX10_reads_35 ?_
  refine j_iald (pc := 36) E s_86 dX10_reads_36 ?_
  refine JF.xlet (fun m9 e10 => ?_)
  refine j_put (pc := 37) E xuX10 tyX10 tyX10_ok nmX10 rfl s_85 rfl (k := 20) (by decide) q_1102 rfl rfl (ty := .int) (by decide +kernel) rfl rfl dX10_reads_37 e10 ?_
  refine j_aload_n (pc := 40) rfl 0 rfl E dX10_reads_40 ?_
  refine JF.xb (fun y11 m12 h13 => ?_)
  refine j_callVv (pc := 41) (st := []) E (kX10_looks h13) mv_X10_looks rfl s_85 q_1181 [] rfl rfl rfl (by decide) (Nat.le_of_ble_eq_true rfl) dX10_reads_41 ?_
  refine j_iconst (pc := 44) (v := 1) (by decide) E dX10_reads_44 ?_
  refine j_istore_n (pc := 45) (lv1 := [(1, .int 1), (0, .ref (xa X 85))]) E dX10_reads_45 rfl (by decide) rfl ?_
  refine JF.sub [1, 0] rfl ?_
  refine lX10_reads_L46 N _ _ _ _ E R (fun m51 => ?_) (fun m52 => ?_) (fun m53 => ?_) (fun m54 => ?_) N 1 m12
  · refine j_iconst (pc := 69) (v := 0) (by decide) E dX10_reads_69 ?_
    exact j_zret (pc := 70) E R rfl dX10_reads_70
  · refine j_iconst (pc := 153) (v := 0) (by decide) E dX10_reads_153 ?_
    exact j_zret (pc := 154) E R rfl dX10_reads_154
  · refine j_iconst (pc := 226) (v := 0) (by decide) E dX10_reads_226 ?_
    exact j_zret (pc := 227) E R rfl dX10_reads_227
  · refine j_iconst (pc := 253) (v := 1) (by decide) E dX10_reads_253 ?_
    exact j_zret (pc := 254) E R rfl dX10_reads_254
def fX10_fault (N : Nat) (σ : XS) : Option XO := xB (fX10_reads N σ) (fun y1 m2 => if y1 = 0 then some ((m2 85 13), m2) else some ((-1), m2))
set_option maxRecDepth 100000 in
set_option maxHeartbeats 4000000 in
theorem kX10_fault {N : Nat} {σ : XS} {o : XO} (h : fX10_fault N σ = some o) : CtI yX10_fault cX10_fault 1 (some .int) 4 93 (fun Am ad => [.ref (Am 85)]) σ o := by
  refine ct_int (by decide) (fun _ _ => Nat.le_of_ble_eq_true rfl) (fun X E R => ?_)
  rw [← h]
  show JF X o 1 0 [(0, .ref (xa X 85))] [] σ (xB (fX10_reads N σ) (fun y1 m2 => if y1 = 0 then some ((m2 85 13), m2) else some ((-1), m2)))
  refine j_aload_n (pc := 0) rfl 0 rfl E dX10_fault_0 ?_
  refine JF.xb (fun y1 m2 h3 => ?_)
  refine j_callVi (pc := 1) (st := []) E (kX10_reads h3) mv_X10_reads rfl s_85 q_1177 [] rfl rfl rfl (by decide) (Nat.le_of_ble_eq_true rfl) dX10_fault_1 ?_
  refine j_if_eq (pc := 4) (tgt := 11) E dX10_fault_4 (by decide) ?_ ?_
  · refine j_aload_n (pc := 11) rfl 0 rfl E dX10_fault_11 ?_
    refine j_get (pc := 12) E xuX10 rfl s_85 (k := 13) (by decide) q_1095 rfl (xflds_int rfl) dX10_fault_12 ?_
    exact j_iret (pc := 15) E R dX10_fault_15
  · refine j_iconst (pc := 7) (v := (-1)) (by decide) E dX10_fault_7 ?_
    refine j_goto (pc := 8) (tgt := 15) E dX10_fault_8 (by decide) ?_
    exact j_iret (pc := 15) E R dX10_fault_15
