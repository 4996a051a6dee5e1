def fX9_line (N : Nat) (σ : XS) (p1 : Int32) : Option XO := if p1 < 0 then some ((-3), σ) else if p1 < (σ 44 1) then xB (fX4_wordAt N σ 44 p1) (fun y1 m2 => some (y1, m2)) else some ((-3), σ)
set_option maxRecDepth 100000 in
set_option maxHeartbeats 4000000 in
theorem kX9_line {N : Nat} {σ : XS} {p1 : Int32} {o : XO} (h : fX9_line N σ p1 = some o) : CtI yX9_line cX9_line 2 (some .int) 1 21 (fun Am ad => [.ref (Am 0), .int p1]) σ o := by
  refine ct_int (by decide) (fun _ _ => Nat.le_of_ble_eq_true rfl) (fun X E R => ?_)
  rw [← h]
  show JF X o 2 0 [(0, .ref (xa X 0)), (1, .int p1)] [] σ (if p1 < 0 then some ((-3), σ) else if p1 < (σ 44 1) then xB (fX4_wordAt N σ 44 p1) (fun y1 m2 => some (y1, m2)) else some ((-3), σ))
  refine j_iload_n (pc := 0) rfl 1 rfl E dX9_line_0 ?_
  refine j_if_lt (pc := 1) (tgt := 15) E dX9_line_1 (by decide) ?_ ?_
  · refine j_bipush (pc := 15) (v := (-3)) (by decide) E dX9_line_15 ?_
    exact j_iret (pc := 17) E R dX9_line_17
  · refine j_iload_n (pc := 4) rfl 1 rfl E dX9_line_4 ?_
    refine j_aload_n (pc := 5) rfl 0 rfl E dX9_line_5 ?_
    refine j_get (pc := 6) E xuX9 rfl s_0 (k := 3) (by decide) q_392 rfl (xflds_ref rfl) dX9_line_6 ?_
    refine j_get (pc := 9) E xuX4 rfl s_44 (k := 1) (by decide) q_243 rfl (xflds_int rfl) dX9_line_9 ?_
    refine j_icmp_lt (pc := 12) (tgt := 18) E dX9_line_12 (by decide) ?_ ?_
    · refine j_aload_n (pc := 18) rfl 0 rfl E dX9_line_18 ?_
      refine j_get (pc := 19) E xuX9 rfl s_0 (k := 3) (by decide) q_392 rfl (xflds_ref rfl) dX9_line_19 ?_
      refine j_iload_n (pc := 22) rfl 1 rfl E dX9_line_22 ?_
      refine JF.xb (fun y1 m2 h3 => ?_)
      refine j_callVi (pc := 23) (st := []) E (kX4_wordAt xl_44 h3) mv_X4_wordAt rfl s_44 q_702 [.int p1] rfl rfl rfl (by decide) (Nat.le_of_ble_eq_true rfl) dX9_line_23 ?_
      exact j_iret (pc := 26) E R dX9_line_26
    · refine j_bipush (pc := 15) (v := (-3)) (by decide) E dX9_line_15 ?_
      exact j_iret (pc := 17) E R dX9_line_17
def fX9_counts (N : Nat) (σ : XS) (p1 : Int32) : Option XO := xB (fX8_isClerk N σ p1) (fun y1 m2 => if y1 = 0 then some ((-2), m2) else xB (fX8_countBy N m2 p1 44) (fun y4 m5 => some (y4, m5)))
set_option maxRecDepth 100000 in
set_option maxHeartbeats 4000000 in
theorem kX9_counts {N : Nat} {σ : XS} {p1 : Int32} {o : XO} (h : fX9_counts N σ p1 = some o) : CtI yX9_counts cX9_counts 2 (some .int) 3 67 (fun Am ad => [.ref (Am 0), .int p1]) σ o := by
  refine ct_int (by decide) (fun _ _ => Nat.le_of_ble_eq_true rfl) (fun X E R => ?_)
  rw [← h]
  show JF X o 2 0 [(0, .ref (xa X 0)), (1, .int p1)] [] σ (xB (fX8_isClerk N σ p1) (fun y1 m2 => if y1 = 0 then some ((-2), m2) else xB (fX8_countBy N m2 p1 44) (fun y4 m5 => some (y4, m5))))
  refine j_aload_n (pc := 0) rfl 0 rfl E dX9_counts_0 ?_
  refine j_get (pc := 1) E xuX9 rfl s_0 (k := 0) (by decide) q_389 rfl (xflds_ref rfl) dX9_counts_1 ?_
  refine j_iload_n (pc := 4) rfl 1 rfl E dX9_counts_4 ?_
  refine JF.xb (fun y1 m2 h3 => ?_)
  refine j_callVi (pc := 5) (st := []) E (kX8_isClerk h3) mv_X8_isClerk rfl s_1 q_629 [.int p1] rfl rfl rfl (by decide) (Nat.le_of_ble_eq_true rfl) dX9_counts_5 ?_
  refine j_if_ne (pc := 8) (tgt := 14) E dX9_counts_8 (by decide) ?_ ?_
  · refine j_bipush (pc := 11) (v := (-2)) (by decide) E dX9_counts_11 ?_
    exact j_iret (pc := 13) E R dX9_counts_13
  · refine j_aload_n (pc := 14) rfl 0 rfl E dX9_counts_14 ?_
    refine j_get (pc := 15) E xuX9 rfl s_0 (k := 0) (by decide) q_389 rfl (xflds_ref rfl) dX9_counts_15 ?_
    refine j_iload_n (pc := 18) rfl 1 rfl E dX9_counts_18 ?_
    refine j_aload_n (pc := 19) rfl 0 rfl E dX9_counts_19 ?_
    refine j_get (pc := 20) E xuX9 rfl s_0 (k := 3) (by decide) q_392 rfl (xflds_ref rfl) dX9_counts_20 ?_
    refine JF.xb (fun y4 m5 h6 => ?_)
    refine j_callVi (pc := 23) (st := []) E (kX8_countBy xl_44 h6) mv_X8_countBy rfl s_1 q_666 [.int p1, .ref (xa X 44)] rfl rfl rfl (by decide) (Nat.le_of_ble_eq_true rfl) dX9_counts_23 ?_
    exact j_iret (pc := 26) E R dX9_counts_26
def fX9_scans (N : Nat) (σ : XS) : Option XO := xB (fX8_isInMetre N σ 44) (fun y1 m2 => if y1 = 0 then some (0, m2) else some (1, m2))
set_option maxRecDepth 100000 in
set_option maxHeartbeats 4000000 in
theorem kX9_scans {N : Nat} {σ : XS} {o : XO} (h : fX9_scans N σ = some o) : CtI yX9_scans cX9_scans 1 (some .int) 2 46 (fun Am ad => [.ref (Am 0)]) σ o := by
  refine ct_int (by decide) (fun _ _ => Nat.le_of_ble_eq_true rfl) (fun X E R => ?_)
  rw [← h]
  show JF X o 1 0 [(0, .ref (xa X 0))] [] σ (xB (fX8_isInMetre N σ 44) (fun y1 m2 => if y1 = 0 then some (0, m2) else some (1, m2)))
  refine j_aload_n (pc := 0) rfl 0 rfl E dX9_scans_0 ?_
  refine j_get (pc := 1) E xuX9 rfl s_0 (k := 0) (by decide) q_389 rfl (xflds_ref rfl) dX9_scans_1 ?_
  refine j_aload_n (pc := 4) rfl 0 rfl E dX9_scans_4 ?_
  refine j_get (pc := 5) E xuX9 rfl s_0 (k := 3) (by decide) q_392 rfl (xflds_ref rfl) dX9_scans_5 ?_
  refine JF.xb (fun y1 m2 h3 => ?_)
  refine j_callVi (pc := 8) (st := []) E (kX8_isInMetre xl_44 h3) mv_X8_isInMetre rfl s_1 q_711 [.ref (xa X 44)] rfl rfl rfl (by decide) (Nat.le_of_ble_eq_true rfl) dX9_scans_8 ?_
  refine j_if_eq (pc := 11) (tgt := 18) E dX9_scans_11 (by decide) ?_ ?_
  · refine j_iconst (pc := 18) (v := 0) (by decide) E dX9_scans_18 ?_
    exact j_iret (pc := 19) E R dX9_scans_19
  · refine j_iconst (pc := 14) (v := 1) (by decide) E dX9_scans_14 ?_
    refine j_goto (pc := 15) (tgt := 19) E dX9_scans_15 (by decide) ?_
    exact j_iret (pc := 19) E R dX9_scans_19
def fX9_areKnown (N : Nat) (σ : XS) (p1 : Int32) (p2 : Int32) : Option XO := xB (fX8_isWare N σ p1) (fun y1 m2 => if y1 = 0 then some (0, m2) else xB (fX8_isClerk N m2 p2) (fun y4 m5 => if y4 = 0 then some (0, m5) else some (1, m5)))
set_option maxRecDepth 100000 in
set_option maxHeartbeats 4000000 in
theorem kX9_areKnown {N : Nat} {σ : XS} {p1 : Int32} {p2 : Int32} {o : XO} (h : fX9_areKnown N σ p1 p2 = some o) : CtI yX9_areKnown cX9_areKnown 3 (some .boolean) 1 21 (fun Am ad => [.ref (Am 0), .int p1, .int p2]) σ o := by
  refine ct_z (by decide) (fun _ _ => Nat.le_of_ble_eq_true rfl) (fun X E R => ?_)
  rw [← h]
  show JF X o 3 0 [(0, .ref (xa X 0)), (1, .int p1), (2, .int p2)] [] σ (xB (fX8_isWare N σ p1) (fun y1 m2 => if y1 = 0 then some (0, m2) else xB (fX8_isClerk N m2 p2) (fun y4 m5 => if y4 = 0 then some (0, m5) else some (1, m5))))
  refine j_aload_n (pc := 0) rfl 0 rfl E dX9_areKnown_0 ?_
  refine j_get (pc := 1) E xuX9 rfl s_0 (k := 0) (by decide) q_389 rfl (xflds_ref rfl) dX9_areKnown_1 ?_
  refine j_iload_n (pc := 4) rfl 1 rfl E dX9_areKnown_4 ?_
  refine JF.xb (fun y1 m2 h3 => ?_)
  refine j_callVi (pc := 5) (st := []) E (kX8_isWare h3) mv_X8_isWare rfl s_1 q_617 [.int p1] rfl rfl rfl (by decide) (Nat.le_of_ble_eq_true rfl) dX9_areKnown_5 ?_
  refine j_if_eq (pc := 8) (tgt := 26) E dX9_areKnown_8 (by decide) ?_ ?_
  · refine j_iconst (pc := 26) (v := 0) (by decide) E dX9_areKnown_26 ?_
    exact j_zret (pc := 27) E R rfl dX9_areKnown_27
  · refine j_aload_n (pc := 11) rfl 0 rfl E dX9_areKnown_11 ?_
    refine j_get (pc := 12) E xuX9 rfl s_0 (k := 0) (by decide) q_389 rfl (xflds_ref rfl) dX9_areKnown_12 ?_
    refine j_iload_n (pc := 15) rfl 2 rfl E dX9_areKnown_15 ?_
    refine JF.xb (fun y4 m5 h6 => ?_)
    refine j_callVi (pc := 16) (st := []) E (kX8_isClerk h6) mv_X8_isClerk rfl s_1 q_629 [.int p2] rfl rfl rfl (by decide) (Nat.le_of_ble_eq_true rfl) dX9_areKnown_16 ?_
    refine j_if_eq (pc := 19) (tgt := 26) E dX9_areKnown_19 (by decide) ?_ ?_
    · refine j_iconst (pc := 26) (v := 0) (by decide) E dX9_areKnown_26 ?_
      exact j_zret (pc := 27) E R rfl dX9_areKnown_27
    · refine j_iconst (pc := 22) (v := 1) (by decide) E dX9_areKnown_22 ?_
      refine j_goto (pc := 23) (tgt := 27) E dX9_areKnown_23 (by decide) ?_
      exact j_zret (pc := 27) E R rfl dX9_areKnown_27
def fX9_passes (N : Nat) (σ : XS) (p1 : Int32) (p2 : Int32) : Option XO := xB (fX9_areKnown N σ p1 p2) (fun y1 m2 => if y1 = 0 then some ((-2), m2) else xB (fX8_admits N m2 44 p1 p2) (fun y4 m5 => if y4 = 0 then some (0, m5) else some (1, m5)))
set_option maxRecDepth 100000 in
set_option maxHeartbeats 4000000 in
theorem kX9_passes {N : Nat} {σ : XS} {p1 : Int32} {p2 : Int32} {o : XO} (h : fX9_passes N σ p1 p2 = some o) : CtI yX9_passes cX9_passes 3 (some .int) 4 90 (fun Am ad => [.ref (Am 0), .int p1, .int p2]) σ o := by
  refine ct_int (by decide) (fun _ _ => Nat.le_of_ble_eq_true rfl) (fun X E R => ?_)
  rw [← h]
  show JF X o 3 0 [(0, .ref (xa X 0)), (1, .int p1), (2, .int p2)] [] σ (xB (fX9_areKnown N σ p1 p2) (fun y1 m2 => if y1 = 0 then some ((-2), m2) else xB (fX8_admits N m2 44 p1 p2) (fun y4 m5 => if y4 = 0 then some (0, m5) else some (1, m5))))
  refine j_aload_n (pc := 0) rfl 0 rfl E dX9_passes_0 ?_
  refine j_iload_n (pc := 1) rfl 1 rfl E dX9_passes_1 ?_
  refine j_iload_n (pc := 2) rfl 2 rfl E dX9_passes_2 ?_
  refine JF.xb (fun y1 m2 h3 => ?_)
  refine j_callVi (pc := 3) (st := []) E (kX9_areKnown h3) mv_X9_areKnown rfl s_0 q_723 [.int p1, .int p2] rfl rfl rfl (by decide) (Nat.le_of_ble_eq_true rfl) dX9_passes_3 ?_
  refine j_if_ne (pc := 6) (tgt := 12) E dX9_passes_6 (by decide) ?_ ?_
  · refine j_bipush (pc := 9) (v := (-2)) (by decide) E dX9_passes_9 ?_
    exact j_iret (pc := 11) E R dX9_passes_11
  · refine j_aload_n (pc := 12) rfl 0 rfl E dX9_passes_12 ?_
    refine j_get (pc := 13) E xuX9 rfl s_0 (k := 0) (by decide) q_389 rfl (xflds_ref rfl) dX9_passes_13 ?_
    refine j_aload_n (pc := 16) rfl 0 rfl E dX9_passes_16 ?_
    refine j_get (pc := 17) E xuX9 rfl s_0 (k := 3) (by decide) q_392 rfl (xflds_ref rfl) dX9_passes_17 ?_
    refine j_iload_n (pc := 20) rfl 1 rfl E dX9_passes_20 ?_
    refine j_iload_n (pc := 21) rfl 2 rfl E dX9_passes_21 ?_
    refine JF.xb (fun y4 m5 h6 => ?_)
    refine j_callVi (pc := 22) (st := []) E (kX8_admits xl_44 h6) mv_X8_admits rfl s_1 q_727 [.ref (xa X 44), .int p1, .int p2] rfl rfl rfl (by decide) (Nat.le_of_ble_eq_true rfl) dX9_passes_22 ?_
    refine j_if_eq (pc := 25) (tgt := 32) E dX9_passes_25 (by decide) ?_ ?_
    · refine j_iconst (pc := 32) (v := 0) (by decide) E dX9_passes_32 ?_
      exact j_iret (pc := 33) E R dX9_passes_33
    · refine j_iconst (pc := 28) (v := 1) (by decide) E dX9_passes_28 ?_
      refine j_goto (pc := 29) (tgt := 33) E dX9_passes_29 (by decide) ?_
      exact j_iret (pc := 33) E R dX9_passes_33
def fX9_declare (N : Nat) (σ : XS) (p1 : Int32) (p2 : Int32) : Option XO := xB (fX9_areKnown N σ p1 p2) (fun y1 m2 => if y1 = 0 then some ((-2), m2) else xB (fX0_fateOf N m2 p1) (fun y4 m5 => if y4 = 0 then xB (fX0_areOver N m5) (fun y7 m8 => if y7 = 0 then xB (fX0_remember N m8) (fun _ m11 => xB (fX4_lastWord N m11 44) (fun y13 m14 => xB (fX8_rhymeWornBy N m14 y13) (fun y16 m17 => xB (fX8_admits N m17 44 p1 p2) (fun y19 m20 => if y19 = 0 then xB (fX0_settle N m20 p1 2 0) (fun y22 m23 => some (y22, m23)) else xB (fX0_usesOf N m20 y16) (fun y25 m26 => xB (fX8_isWorn N m26 y16 y25) (fun y28 m29 => if y28 = 0 then xB (fX0_use N m29 y16) (fun _ m32 => xB (fX9_at N m32 7 p1) (fun y34 m35 => xB (fX0_settle N m35 p1 1 y34) (fun y37 m38 => some (y37, m38)))) else xB (fX0_settle N m29 p1 2 0) (fun y40 m41 => some (y40, m41)))))))) else some ((-5), m8)) else some ((-4), m5)))
set_option maxRecDepth 100000 in
set_option maxHeartbeats 4000000 in
theorem kX9_declare {N : Nat} {σ : XS} {p1 : Int32} {p2 : Int32} {o : XO} (h : fX9_declare N σ p1 p2 = some o) : CtI yX9_declare cX9_declare 4 (some .int) 4 90 (fun Am ad => [.ref (Am 0), .int p1, .int p2]) σ o := by
  refine ct_int (by decide) (fun _ _ => Nat.le_of_ble_eq_true rfl) (fun X E R => ?_)
  rw [← h]
  show JF X o 4 0 [(0, .ref (xa X 0)), (1, .int p1), (2, .int p2)] [] σ (xB (fX9_areKnown N σ p1 p2) (fun y1 m2 => if y1 = 0 then some ((-2), m2) else xB (fX0_fateOf N m2 p1) (fun y4 m5 => if y4 = 0 then xB (fX0_areOver N m5) (fun y7 m8 => if y7 = 0 then xB (fX0_remember N m8) (fun _ m11 => xB (fX4_lastWord N m11 44) (fun y13 m14 => xB (fX8_rhymeWornBy N m14 y13) (fun y16 m17 => xB (fX8_admits N m17 44 p1 p2) (fun y19 m20 => if y19 = 0 then xB (fX0_settle N m20 p1 2 0) (fun y22 m23 => some (y22, m23)) else xB (fX0_usesOf N m20 y16) (fun y25 m26 => xB (fX8_isWorn N m26 y16 y25) (fun y28 m29 => if y28 = 0 then xB (fX0_use N m29 y16) (fun _ m32 => xB (fX9_at N m32 7 p1) (fun y34 m35 => xB (fX0_settle N m35 p1 1 y34) (fun y37 m38 => some (y37, m38)))) else xB (fX0_settle N m29 p1 2 0) (fun y40 m41 => some (y40, m41)))))))) else some ((-5), m8)) else some ((-4), m5))))
  refine j_aload_n (pc := 0) rfl 0 rfl E dX9_declare_0 ?_
  refine j_iload_n (pc := 1) rfl 1 rfl E dX9_declare_1 ?_
  refine j_iload_n (pc := 2) rfl 2 rfl E dX9_declare_2 ?_
  refine JF.xb (fun y1 m2 h3 => ?_)
  refine j_callVi (pc := 3) (st := []) E (kX9_areKnown h3) mv_X9_areKnown rfl s_0 q_723 [.int p1, .int p2] rfl rfl rfl (by decide) (Nat.le_of_ble_eq_true rfl) dX9_declare_3 ?_
  refine j_if_ne (pc := 6) (tgt := 12) E dX9_declare_6 (by decide) ?_ ?_
  · refine j_bipush (pc := 9) (v := (-2)) (by decide) E dX9_declare_9 ?_
    exact j_iret (pc := 11) E R dX9_declare_11
  · refine j_aload_n (pc := 12) rfl 0 rfl E dX9_declare_12 ?_
    refine j_get (pc := 13) E xuX9 rfl s_0 (k := 2) (by decide) q_391 rfl (xflds_ref rfl) dX9_declare_13 ?_
    refine j_iload_n (pc := 16) rfl 1 rfl E dX9_declare_16 ?_
    refine JF.xb (fun y4 m5 h6 => ?_)
    refine j_callVi (pc := 17) (st := []) E (kX0_fateOf h6) mv_X0_fateOf rfl s_29 q_621 [.int p1] rfl rfl rfl (by decide) (Nat.le_of_ble_eq_true rfl) dX9_declare_17 ?_
    refine j_if_eq (pc := 20) (tgt := 26) E dX9_declare_20 (by decide) ?_ ?_
    · refine j_aload_n (pc := 26) rfl 0 rfl E dX9_declare_26 ?_
      refine j_get (pc := 27) E xuX9 rfl s_0 (k := 2) (by decide) q_391 rfl (xflds_ref rfl) dX9_declare_27 ?_
      refine JF.xb (fun y7 m8 h9 => ?_)
      refine j_callVi (pc := 30) (st := []) E (kX0_areOver h9) mv_X0_areOver rfl s_29 q_754 [] rfl rfl rfl (by decide) (Nat.le_of_ble_eq_true rfl) dX9_declare_30 ?_
      refine j_if_eq (pc := 33) (tgt := 39) E dX9_declare_33 (by decide) ?_ ?_
      · refine j_aload_n (pc := 39) rfl 0 rfl E dX9_declare_39 ?_
        refine j_get (pc := 40) E xuX9 rfl s_0 (k := 2) (by decide) q_391 rfl (xflds_ref rfl) dX9_declare_40 ?_
        refine JF.xb (fun y10 m11 h12 => ?_)
        refine j_callVv (pc := 43) (st := []) E (kX0_remember h12) mv_X0_remember rfl s_29 q_758 [] rfl rfl rfl (by decide) (Nat.le_of_ble_eq_true rfl) dX9_declare_43 ?_
        refine j_aload_n (pc := 46) rfl 0 rfl E dX9_declare_46 ?_
        refine j_get (pc := 47) E xuX9 rfl s_0 (k := 0) (by decide) q_389 rfl (xflds_ref rfl) dX9_declare_47 ?_
        refine j_aload_n (pc := 50) rfl 0 rfl E dX9_declare_50 ?_
        refine j_get (pc := 51) E xuX9 rfl s_0 (k := 3) (by decide) q_392 rfl (xflds_ref rfl) dX9_declare_51 ?_
        refine JF.xb (fun y13 m14 h15 => ?_)
        refine j_callVi (pc := 54) (st := [.ref (xa X 1)]) E (kX4_lastWord xl_44 h15) mv_X4_lastWord rfl s_44 q_768 [] rfl rfl rfl (by decide) (Nat.le_of_ble_eq_true rfl) dX9_declare_54 ?_
        refine JF.xb (fun y16 m17 h18 => ?_)
        refine j_callVi (pc := 57) (st := []) E (kX8_rhymeWornBy h18) mv_X8_rhymeWornBy rfl s_1 q_769 [.int y13] rfl rfl rfl (by decide) (Nat.le_of_ble_eq_true rfl) dX9_declare_57 ?_
        refine j_istore_n (pc := 60) (lv1 := [(3, .int y16), (0, .ref (xa X 0)), (1, .int p1), (2, .int p2)]) E dX9_declare_60 rfl (by decide) rfl ?_
        refine j_aload_n (pc := 61) rfl 1 rfl E dX9_declare_61 ?_
        refine j_get (pc := 62) E xuX9 rfl s_0 (k := 0) (by decide) q_389 rfl (xflds_ref rfl) dX9_declare_62 ?_
        refine j_aload_n (pc := 65) rfl 1 rfl E dX9_declare_65 ?_
        refine j_get (pc := 66) E xuX9 rfl s_0 (k := 3) (by decide) q_392 rfl (xflds_ref rfl) dX9_declare_66 ?_
        refine j_iload_n (pc := 69) rfl 2 rfl E dX9_declare_69 ?_
        refine j_iload_n (pc := 70) rfl 3 rfl E dX9_declare_70 ?_
        refine JF.xb (fun y19 m20 h21 => ?_)
        refine j_callVi (pc := 71) (st := []) E (kX8_admits xl_44 h21) mv_X8_admits rfl s_1 q_727 [.ref (xa X 44), .int p1, .int p2] rfl rfl rfl (by decide) (Nat.le_of_ble_eq_true rfl) dX9_declare_71 ?_
        refine j_if_eq (pc := 74) (tgt := 96) E dX9_declare_74 (by decide) ?_ ?_
        · refine j_aload_n (pc := 96) rfl 1 rfl E dX9_declare_96 ?_
          refine j_get (pc := 97) E xuX9 rfl s_0 (k := 2) (by decide) q_391 rfl (xflds_ref rfl) dX9_declare_97 ?_
          refine j_iload_n (pc := 100) rfl 2 rfl E dX9_declare_100 ?_
          refine j_iconst (pc := 101) (v := 2) (by decide) E dX9_declare_101 ?_
          refine j_iconst (pc := 102) (v := 0) (by decide) E dX9_declare_102 ?_
          refine JF.xb (fun y22 m23 h24 => ?_)
          refine j_callVi (pc := 103) (st := []) E (kX0_settle h24) mv_X0_settle rfl s_29 q_778 [.int p1, .int 2, .int 0] rfl rfl rfl (by decide) (Nat.le_of_ble_eq_true rfl) dX9_declare_103 ?_
          exact j_iret (pc := 106) E R dX9_declare_106
        · refine j_aload_n (pc := 77) rfl 1 rfl E dX9_declare_77 ?_
          refine j_get (pc := 78) E xuX9 rfl s_0 (k := 0) (by decide) q_389 rfl (xflds_ref rfl) dX9_declare_78 ?_
          refine j_iload_n (pc := 81) rfl 0 rfl E dX9_declare_81 ?_
          refine j_aload_n (pc := 82) rfl 1 rfl E dX9_declare_82 ?_
          refine j_get (pc := 83) E xuX9 rfl s_0 (k := 2) (by decide) q_391 rfl (xflds_ref rfl) dX9_declare_83 ?_
          refine j_iload_n (pc := 86) rfl 0 rfl E dX9_declare_86 ?_
          refine JF.xb (fun y25 m26 h27 => ?_)
          refine j_callVi (pc := 87) (st := [.int y16, .ref (xa X 1)]) E (kX0_usesOf h27) mv_X0_usesOf rfl s_29 q_637 [.int y16] rfl rfl rfl (by decide) (Nat.le_of_ble_eq_true rfl) dX9_declare_87 ?_
          refine JF.xb (fun y28 m29 h30 => ?_)
          refine j_callVi (pc := 90) (st := []) E (kX8_isWorn h30) mv_X8_isWorn rfl s_1 q_774 [.int y16, .int y25] rfl rfl rfl (by decide) (Nat.le_of_ble_eq_true rfl) dX9_declare_90 ?_
          refine j_if_eq (pc := 93) (tgt := 107) E dX9_declare_93 (by decide) ?_ ?_
          · refine j_aload_n (pc := 107) rfl 1 rfl E dX9_declare_107 ?_
            refine j_get (pc := 108) E xuX9 rfl s_0 (k := 2) (by decide) q_391 rfl (xflds_ref rfl) dX9_declare_108 ?_
            refine j_iload_n (pc := 111) rfl 0 rfl E dX9_declare_111 ?_
            refine JF.xb (fun y31 m32 h33 => ?_)
            refine j_callVv (pc := 112) (st := []) E (kX0_use h33) mv_X0_use rfl s_29 q_782 [.int y16] rfl rfl rfl (by decide) (Nat.le_of_ble_eq_true rfl) dX9_declare_112 ?_
            refine j_aload_n (pc := 115) rfl 1 rfl E dX9_declare_115 ?_
            refine j_get (pc := 116) E xuX9 rfl s_0 (k := 2) (by decide) q_391 rfl (xflds_ref rfl) dX9_declare_116 ?_
            refine j_iload_n (pc := 119) rfl 2 rfl E dX9_declare_119 ?_
            refine j_iconst (pc := 120) (v := 1) (by decide) E dX9_declare_120 ?_
            refine j_aload_n (pc := 121) rfl 1 rfl E dX9_declare_121 ?_
            refine j_get (pc := 122) E xuX9 rfl s_0 (k := 0) (by decide) q_389 rfl (xflds_ref rfl) dX9_declare_122 ?_
            refine j_get (pc := 125) E xuX8 rfl s_1 (k := 5) (by decide) q_109 rfl (xflds_ref rfl) dX9_declare_125 ?_
            refine j_iload_n (pc := 128) rfl 2 rfl E dX9_declare_128 ?_
            refine JF.xb (fun y34 m35 h36 => ?_)
            refine j_callSi (pc := 129) (st := [.int 1, .int p1, .ref (xa X 29)]) E (kX9_at xr_7 h36) mv_X9_at q_610 [.ref (xa X 7), .int p1] rfl rfl rfl (by decide) (Nat.le_of_ble_eq_true rfl) dX9_declare_129 ?_
            refine JF.xb (fun y37 m38 h39 => ?_)
            refine j_callVi (pc := 132) (st := []) E (kX0_settle h39) mv_X0_settle rfl s_29 q_778 [.int p1, .int 1, .int y34] rfl rfl rfl (by decide) (Nat.le_of_ble_eq_true rfl) dX9_declare_132 ?_
            exact j_iret (pc := 135) E R dX9_declare_135
          · refine j_aload_n (pc := 96) rfl 1 rfl E dX9_declare_96 ?_
            refine j_get (pc := 97) E xuX9 rfl s_0 (k := 2) (by decide) q_391 rfl (xflds_ref rfl) dX9_declare_97 ?_
            refine j_iload_n (pc := 100) rfl 2 rfl E dX9_declare_100 ?_
            refine j_iconst (pc := 101) (v := 2) (by decide) E dX9_declare_101 ?_
            refine j_iconst (pc := 102) (v := 0) (by decide) E dX9_declare_102 ?_
            refine JF.xb (fun y40 m41 h42 => ?_)
            refine j_callVi (pc := 103) (st := []) E (kX0_settle h42) mv_X0_settle rfl s_29 q_778 [.int p1, .int 2, .int 0] rfl rfl rfl (by decide) (Nat.le_of_ble_eq_true rfl) dX9_declare_103 ?_
            exact j_iret (pc := 106) E R dX9_declare_106
      · refine j_bipush (pc := 36) (v := (-5)) (by decide) E dX9_declare_36 ?_
        exact j_iret (pc := 38) E R dX9_declare_38
    · refine j_bipush (pc := 23) (v := (-4)) (by decide) E dX9_declare_23 ?_
      exact j_iret (pc := 25) E R dX9_declare_25
def fX9_prose (N : Nat) (σ : XS) (p1 : Int32) : Option XO := xB (fX8_isWare N σ p1) (fun y1 m2 => if y1 = 0 then some ((-2), m2) else xB (fX0_fateOf N m2 p1) (fun y4 m5 => if y4 = 0 then xB (fX0_areOver N m5) (fun y7 m8 => if y7 = 0 then xB (fX0_remember N m8) (fun _ m11 => xB (fX9_at N m11 7 p1) (fun y13 m14 => xB (fX0_settle N m14 p1 3 (3 * y13)) (fun y16 m17 => some (y16, m17)))) else some ((-5), m8)) else some ((-4), m5)))
set_option maxRecDepth 100000 in
set_option maxHeartbeats 4000000 in
theorem kX9_prose {N : Nat} {σ : XS} {p1 : Int32} {o : XO} (h : fX9_prose N σ p1 = some o) : CtI yX9_prose cX9_prose 2 (some .int) 2 80 (fun Am ad => [.ref (Am 0), .int p1]) σ o := by
  refine ct_int (by decide) (fun _ _ => Nat.le_of_ble_eq_true rfl) (fun X E R => ?_)
  rw [← h]
  show JF X o 2 0 [(0, .ref (xa X 0)), (1, .int p1)] [] σ (xB (fX8_isWare N σ p1) (fun y1 m2 => if y1 = 0 then some ((-2), m2) else xB (fX0_fateOf N m2 p1) (fun y4 m5 => if y4 = 0 then xB (fX0_areOver N m5) (fun y7 m8 => if y7 = 0 then xB (fX0_remember N m8) (fun _ m11 => xB (fX9_at N m11 7 p1) (fun y13 m14 => xB (fX0_settle N m14 p1 3 (3 * y13)) (fun y16 m17 => some (y16, m17)))) else some ((-5), m8)) else some ((-4), m5))))
  refine j_aload_n (pc := 0) rfl 0 rfl E dX9_prose_0 ?_
  refine j_get (pc := 1) E xuX9 rfl s_0 (k := 0) (by decide) q_389 rfl (xflds_ref rfl) dX9_prose_1 ?_
  refine j_iload_n (pc := 4) rfl 1 rfl E dX9_prose_4 ?_
  refine JF.xb (fun y1 m2 h3 => ?_)
  refine j_callVi (pc := 5) (st := []) E (kX8_isWare h3) mv_X8_isWare rfl s_1 q_617 [.int p1] rfl rfl rfl (by decide) (Nat.le_of_ble_eq_true rfl) dX9_prose_5 ?_
  refine j_if_ne (pc := 8) (tgt := 14) E dX9_prose_8 (by decide) ?_ ?_
  · refine j_bipush (pc := 11) (v := (-2)) (by decide) E dX9_prose_11 ?_
    exact j_iret (pc := 13) E R dX9_prose_13
  · refine j_aload_n (pc := 14) rfl 0 rfl E dX9_prose_14 ?_
    refine j_get (pc := 15) E xuX9 rfl s_0 (k := 2) (by decide) q_391 rfl (xflds_ref rfl) dX9_prose_15 ?_
    refine j_iload_n (pc := 18) rfl 1 rfl E dX9_prose_18 ?_
    refine JF.xb (fun y4 m5 h6 => ?_)
    refine j_callVi (pc := 19) (st := []) E (kX0_fateOf h6) mv_X0_fateOf rfl s_29 q_621 [.int p1] rfl rfl rfl (by decide) (Nat.le_of_ble_eq_true rfl) dX9_prose_19 ?_
    refine j_if_eq (pc := 22) (tgt := 28) E dX9_prose_22 (by decide) ?_ ?_
    · refine j_aload_n (pc := 28) rfl 0 rfl E dX9_prose_28 ?_
      refine j_get (pc := 29) E xuX9 rfl s_0 (k := 2) (by decide) q_391 rfl (xflds_ref rfl) dX9_prose_29 ?_
      refine JF.xb (fun y7 m8 h9 => ?_)
      refine j_callVi (pc := 32) (st := []) E (kX0_areOver h9) mv_X0_areOver rfl s_29 q_754 [] rfl rfl rfl (by decide) (Nat.le_of_ble_eq_true rfl) dX9_prose_32 ?_
      refine j_if_eq (pc := 35) (tgt := 41) E dX9_prose_35 (by decide) ?_ ?_
      · refine j_aload_n (pc := 41) rfl 0 rfl E dX9_prose_41 ?_
        refine j_get (pc := 42) E xuX9 rfl s_0 (k := 2) (by decide) q_391 rfl (xflds_ref rfl) dX9_prose_42 ?_
        refine JF.xb (fun y10 m11 h12 => ?_)
        refine j_callVv (pc := 45) (st := []) E (kX0_remember h12) mv_X0_remember rfl s_29 q_758 [] rfl rfl rfl (by decide) (Nat.le_of_ble_eq_true rfl) dX9_prose_45 ?_
        refine j_aload_n (pc := 48) rfl 0 rfl E dX9_prose_48 ?_
        refine j_get (pc := 49) E xuX9 rfl s_0 (k := 2) (by decide) q_391 rfl (xflds_ref rfl) dX9_prose_49 ?_
        refine j_iload_n (pc := 52) rfl 1 rfl E dX9_prose_52 ?_
        refine j_iconst (pc := 53) (v := 3) (by decide) E dX9_prose_53 ?_
        refine j_iconst (pc := 54) (v := 3) (by decide) E dX9_prose_54 ?_
        refine j_aload_n (pc := 55) rfl 0 rfl E dX9_prose_55 ?_
        refine j_get (pc := 56) E xuX9 rfl s_0 (k := 0) (by decide) q_389 rfl (xflds_ref rfl) dX9_prose_56 ?_
        refine j_get (pc := 59) E xuX8 rfl s_1 (k := 5) (by decide) q_109 rfl (xflds_ref rfl) dX9_prose_59 ?_
        refine j_iload_n (pc := 62) rfl 1 rfl E dX9_prose_62 ?_
        refine JF.xb (fun y13 m14 h15 => ?_)
        refine j_callSi (pc := 63) (st := [.int 3, .int 3, .int p1, .ref (xa X 29)]) E (kX9_at xr_7 h15) mv_X9_at q_610 [.ref (xa X 7), .int p1] rfl rfl rfl (by decide) (Nat.le_of_ble_eq_true rfl) dX9_prose_63 ?_
        refine j_imul (pc := 66) E dX9_prose_66 ?_
        refine JF.xb (fun y16 m17 h18 => ?_)
        refine j_callVi (pc := 67) (st := []) E (kX0_settle h18) mv_X0_settle rfl s_29 q_778 [.int p1, .int 3, .int (3 * y13)] rfl rfl rfl (by decide) (Nat.le_of_ble_eq_true rfl) dX9_prose_67 ?_
        exact j_iret (pc := 70) E R dX9_prose_70
      · refine j_bipush (pc := 38) (v := (-5)) (by decide) E dX9_prose_38 ?_
        exact j_iret (pc := 40) E R dX9_prose_40
    · refine j_bipush (pc := 25) (v := (-4)) (by decide) E dX9_prose_25 ?_
      exact j_iret (pc := 27) E R dX9_prose_27
def fX9_day (N : Nat) (σ : XS) : Option XO := xB (fX0_areOver N σ) (fun y1 m2 => if y1 = 0 then xB (fX0_remember N m2) (fun _ m5 => xB (fX0_pass N m5) (fun y7 m8 => some (y7, m8))) else some ((-5), m2))
set_option maxRecDepth 100000 in
set_option maxHeartbeats 4000000 in
theorem kX9_day {N : Nat} {σ : XS} {o : XO} (h : fX9_day N σ = some o) : CtI yX9_day cX9_day 1 (some .int) 2 80 (fun Am ad => [.ref (Am 0)]) σ o := by
  refine ct_int (by decide) (fun _ _ => Nat.le_of_ble_eq_true rfl) (fun X E R => ?_)
  rw [← h]
  show JF X o 1 0 [(0, .ref (xa X 0))] [] σ (xB (fX0_areOver N σ) (fun y1 m2 => if y1 = 0 then xB (fX0_remember N m2) (fun _ m5 => xB (fX0_pass N m5) (fun y7 m8 => some (y7, m8))) else some ((-5), m2)))
  refine j_aload_n (pc := 0) rfl 0 rfl E dX9_day_0 ?_
  refine j_get (pc := 1) E xuX9 rfl s_0 (k := 2) (by decide) q_391 rfl (xflds_ref rfl) dX9_day_1 ?_
  refine JF.xb (fun y1 m2 h3 => ?_)
  refine j_callVi (pc := 4) (st := []) E (kX0_areOver h3) mv_X0_areOver rfl s_29 q_754 [] rfl rfl rfl (by decide) (Nat.le_of_ble_eq_true rfl) dX9_day_4 ?_
  refine j_if_eq (pc := 7) (tgt := 13) E dX9_day_7 (by decide) ?_ ?_
  · refine j_aload_n (pc := 13) rfl 0 rfl E dX9_day_13 ?_
    refine j_get (pc := 14) E xuX9 rfl s_0 (k := 2) (by decide) q_391 rfl (xflds_ref rfl) dX9_day_14 ?_
    refine JF.xb (fun y4 m5 h6 => ?_)
    refine j_callVv (pc := 17) (st := []) E (kX0_remember h6) mv_X0_remember rfl s_29 q_758 [] rfl rfl rfl (by decide) (Nat.le_of_ble_eq_true rfl) dX9_day_17 ?_
    refine j_aload_n (pc := 20) rfl 0 rfl E dX9_day_20 ?_
    refine j_get (pc := 21) E xuX9 rfl s_0 (k := 2) (by decide) q_391 rfl (xflds_ref rfl) dX9_day_21 ?_
    refine JF.xb (fun y7 m8 h9 => ?_)
    refine j_callVi (pc := 24) (st := []) E (kX0_pass h9) mv_X0_pass rfl s_29 q_794 [] rfl rfl rfl (by decide) (Nat.le_of_ble_eq_true rfl) dX9_day_24 ?_
    exact j_iret (pc := 27) E R dX9_day_27
  · refine j_bipush (pc := 10) (v := (-5)) (by decide) E dX9_day_10 ?_
    exact j_iret (pc := 12) E R dX9_day_12
def fX9_undo (N : Nat) (σ : XS) : Option XO := if (σ 29 5) = 0 then some ((-4), σ) else xB (fX0_takeBack N σ) (fun y1 m2 => some (y1, m2))
set_option maxRecDepth 100000 in
set_option maxHeartbeats 4000000 in
theorem kX9_undo {N : Nat} {σ : XS} {o : XO} (h : fX9_undo N σ = some o) : CtI yX9_undo cX9_undo 1 (some .int) 2 80 (fun Am ad => [.ref (Am 0)]) σ o := by
  refine ct_int (by decide) (fun _ _ => Nat.le_of_ble_eq_true rfl) (fun X E R => ?_)
  rw [← h]
  show JF X o 1 0 [(0, .ref (xa X 0))] [] σ (if (σ 29 5) = 0 then some ((-4), σ) else xB (fX0_takeBack N σ) (fun y1 m2 => some (y1, m2)))
  refine j_aload_n (pc := 0) rfl 0 rfl E dX9_undo_0 ?_
  refine j_get (pc := 1) E xuX9 rfl s_0 (k := 2) (by decide) q_391 rfl (xflds_ref rfl) dX9_undo_1 ?_
  refine j_get (pc := 4) E xuX0 rfl s_29 (k := 5) (by decide) q_218 rfl (xflds_int rfl) dX9_undo_4 ?_
  refine j_if_ne (pc := 7) (tgt := 13) E dX9_undo_7 (by decide) ?_ ?_
  · refine j_bipush (pc := 10) (v := (-4)) (by decide) E dX9_undo_10 ?_
    exact j_iret (pc := 12) E R dX9_undo_12
  · refine j_aload_n (pc := 13) rfl 0 rfl E dX9_undo_13 ?_
    refine j_get (pc := 14) E xuX9 rfl s_0 (k := 2) (by decide) q_391 rfl (xflds_ref rfl) dX9_undo_14 ?_
    refine JF.xb (fun y1 m2 h3 => ?_)
    refine j_callVi (pc := 17) (st := []) E (kX0_takeBack h3) mv_X0_takeBack rfl s_29 q_802 [] rfl rfl rfl (by decide) (Nat.le_of_ble_eq_true rfl) dX9_undo_17 ?_
    exact j_iret (pc := 20) E R dX9_undo_20
def fX9_keep (N : Nat) (σ : XS) (p1 : Int32) : Option XO := if p1 < 0 then some ((-2), σ) else if p1 < 2 then xB (fX0_store N σ p1) (fun y1 m2 => some (y1, m2)) else some ((-2), σ)
set_option maxRecDepth 100000 in
set_option maxHeartbeats 4000000 in
theorem kX9_keep {N : Nat} {σ : XS} {p1 : Int32} {o : XO} (h : fX9_keep N σ p1 = some o) : CtI yX9_keep cX9_keep 2 (some .int) 2 81 (fun Am ad => [.ref (Am 0), .int p1]) σ o := by
  refine ct_int (by decide) (fun _ _ => Nat.le_of_ble_eq_true rfl) (fun X E R => ?_)
  rw [← h]
  show JF X o 2 0 [(0, .ref (xa X 0)), (1, .int p1)] [] σ (if p1 < 0 then some ((-2), σ) else if p1 < 2 then xB (fX0_store N σ p1) (fun y1 m2 => some (y1, m2)) else some ((-2), σ))
  refine j_iload_n (pc := 0) rfl 1 rfl E dX9_keep_0 ?_
  refine j_if_lt (pc := 1) (tgt := 9) E dX9_keep_1 (by decide) ?_ ?_
  · refine j_bipush (pc := 9) (v := (-2)) (by decide) E dX9_keep_9 ?_
    exact j_iret (pc := 11) E R dX9_keep_11
  · refine j_iload_n (pc := 4) rfl 1 rfl E dX9_keep_4 ?_
    refine j_iconst (pc := 5) (v := 2) (by decide) E dX9_keep_5 ?_
    refine j_icmp_lt (pc := 6) (tgt := 12) E dX9_keep_6 (by decide) ?_ ?_
    · refine j_aload_n (pc := 12) rfl 0 rfl E dX9_keep_12 ?_
      refine j_get (pc := 13) E xuX9 rfl s_0 (k := 2) (by decide) q_391 rfl (xflds_ref rfl) dX9_keep_13 ?_
      refine j_iload_n (pc := 16) rfl 1 rfl E dX9_keep_16 ?_
      refine JF.xb (fun y1 m2 h3 => ?_)
      refine j_callVi (pc := 17) (st := []) E (kX0_store h3) mv_X0_store rfl s_29 q_810 [.int p1] rfl rfl rfl (by decide) (Nat.le_of_ble_eq_true rfl) dX9_keep_17 ?_
      exact j_iret (pc := 20) E R dX9_keep_20
    · refine j_bipush (pc := 9) (v := (-2)) (by decide) E dX9_keep_9 ?_
      exact j_iret (pc := 11) E R dX9_keep_11
def fX9_back (N : Nat) (σ : XS) (p1 : Int32) : Option XO := if p1 < 0 then some ((-2), σ) else if p1 < 2 then xB (fX0_isStored N σ p1) (fun y1 m2 => if y1 = 0 then some ((-4), m2) else xB (fX0_restore N m2 p1) (fun y4 m5 => some (y4, m5))) else some ((-2), σ)
set_option maxRecDepth 100000 in
set_option maxHeartbeats 4000000 in
theorem kX9_back {N : Nat} {σ : XS} {p1 : Int32} {o : XO} (h : fX9_back N σ p1 = some o) : CtI yX9_back cX9_back 2 (some .int) 2 81 (fun Am ad => [.ref (Am 0), .int p1]) σ o := by
  refine ct_int (by decide) (fun _ _ => Nat.le_of_ble_eq_true rfl) (fun X E R => ?_)
  rw [← h]
  show JF X o 2 0 [(0, .ref (xa X 0)), (1, .int p1)] [] σ (if p1 < 0 then some ((-2), σ) else if p1 < 2 then xB (fX0_isStored N σ p1) (fun y1 m2 => if y1 = 0 then some ((-4), m2) else xB (fX0_restore N m2 p1) (fun y4 m5 => some (y4, m5))) else some ((-2), σ))
  refine j_iload_n (pc := 0) rfl 1 rfl E dX9_back_0 ?_
  refine j_if_lt (pc := 1) (tgt := 9) E dX9_back_1 (by decide) ?_ ?_
  · refine j_bipush (pc := 9) (v := (-2)) (by decide) E dX9_back_9 ?_
    exact j_iret (pc := 11) E R dX9_back_11
  · refine j_iload_n (pc := 4) rfl 1 rfl E dX9_back_4 ?_
    refine j_iconst (pc := 5) (v := 2) (by decide) E dX9_back_5 ?_
    refine j_icmp_lt (pc := 6) (tgt := 12) E dX9_back_6 (by decide) ?_ ?_
    · refine j_aload_n (pc := 12) rfl 0 rfl E dX9_back_12 ?_
      refine j_get (pc := 13) E xuX9 rfl s_0 (k := 2) (by decide) q_391 rfl (xflds_ref rfl) dX9_back_13 ?_
      refine j_iload_n (pc := 16) rfl 1 rfl E dX9_back_16 ?_
      refine JF.xb (fun y1 m2 h3 => ?_)
      refine j_callVi (pc := 17) (st := []) E (kX0_isStored h3) mv_X0_isStored rfl s_29 q_818 [.int p1] rfl rfl rfl (by decide) (Nat.le_of_ble_eq_true rfl) dX9_back_17 ?_
      refine j_if_ne (pc := 20) (tgt := 26) E dX9_back_20 (by decide) ?_ ?_
      · refine j_bipush (pc := 23) (v := (-4)) (by decide) E dX9_back_23 ?_
        exact j_iret (pc := 25) E R dX9_back_25
      · refine j_aload_n (pc := 26) rfl 0 rfl E dX9_back_26 ?_
        refine j_get (pc := 27) E xuX9 rfl s_0 (k := 2) (by decide) q_391 rfl (xflds_ref rfl) dX9_back_27 ?_
        refine j_iload_n (pc := 30) rfl 1 rfl E dX9_back_30 ?_
        refine JF.xb (fun y4 m5 h6 => ?_)
        refine j_callVi (pc := 31) (st := []) E (kX0_restore h6) mv_X0_restore rfl s_29 q_822 [.int p1] rfl rfl rfl (by decide) (Nat.le_of_ble_eq_true rfl) dX9_back_31 ?_
        exact j_iret (pc := 34) E R dX9_back_34
    · refine j_bipush (pc := 9) (v := (-2)) (by decide) E dX9_back_9 ?_
      exact j_iret (pc := 11) E R dX9_back_11
def fX9_fewestOrHowMany (N : Nat) (σ : XS) (p1 : Int32) : Option XO := xB (fX2_fewestWords N σ) (fun y1 m2 => if p1 = 0 then some (y1, m2) else if y1 = (-1) then some (y1, m2) else xB (fX2_linesOf N m2 y1) (fun y4 m5 => some (y4, m5)))
set_option maxRecDepth 100000 in
set_option maxHeartbeats 4000000 in
theorem kX9_fewestOrHowMany {N : Nat} {σ : XS} {p1 : Int32} {o : XO} (h : fX9_fewestOrHowMany N σ p1 = some o) : CtI yX9_fewestOrHowMany cX9_fewestOrHowMany 3 (some .int) 6 139 (fun Am ad => [.ref (Am 0), .int p1]) σ o := by
  refine ct_int (by decide) (fun _ _ => Nat.le_of_ble_eq_true rfl) (fun X E R => ?_)
  rw [← h]
  show JF X o 3 0 [(0, .ref (xa X 0)), (1, .int p1)] [] σ (xB (fX2_fewestWords N σ) (fun y1 m2 => if p1 = 0 then some (y1, m2) else if y1 = (-1) then some (y1, m2) else xB (fX2_linesOf N m2 y1) (fun y4 m5 => some (y4, m5))))
  refine j_aload_n (pc := 0) rfl 0 rfl E dX9_fewestOrHowMany_0 ?_
  refine j_get (pc := 1) E xuX9 rfl s_0 (k := 5) (by decide) q_394 rfl (xflds_ref rfl) dX9_fewestOrHowMany_1 ?_
  refine JF.xb (fun y1 m2 h3 => ?_)
  refine j_callVi (pc := 4) (st := []) E (kX2_fewestWords h3) mv_X2_fewestWords rfl s_47 q_852 [] rfl rfl rfl (by decide) (Nat.le_of_ble_eq_true rfl) dX9_fewestOrHowMany_4 ?_
  refine j_istore_n (pc := 7) (lv1 := [(2, .int y1), (0, .ref (xa X 0)), (1, .int p1)]) E dX9_fewestOrHowMany_7 rfl (by decide) rfl ?_
  refine j_iload_n (pc := 8) rfl 2 rfl E dX9_fewestOrHowMany_8 ?_
  refine j_if_eq (pc := 9) (tgt := 17) E dX9_fewestOrHowMany_9 (by decide) ?_ ?_
  · refine j_iload_n (pc := 17) rfl 0 rfl E dX9_fewestOrHowMany_17 ?_
    exact j_iret (pc := 18) E R dX9_fewestOrHowMany_18
  · refine j_iload_n (pc := 12) rfl 0 rfl E dX9_fewestOrHowMany_12 ?_
    refine j_iconst (pc := 13) (v := (-1)) (by decide) E dX9_fewestOrHowMany_13 ?_
    refine j_icmp_ne (pc := 14) (tgt := 19) E dX9_fewestOrHowMany_14 (by decide) ?_ ?_
    · refine j_iload_n (pc := 17) rfl 0 rfl E dX9_fewestOrHowMany_17 ?_
      exact j_iret (pc := 18) E R dX9_fewestOrHowMany_18
    · refine j_aload_n (pc := 19) rfl 1 rfl E dX9_fewestOrHowMany_19 ?_
      refine j_get (pc := 20) E xuX9 rfl s_0 (k := 5) (by decide) q_394 rfl (xflds_ref rfl) dX9_fewestOrHowMany_20 ?_
      refine j_iload_n (pc := 23) rfl 0 rfl E dX9_fewestOrHowMany_23 ?_
      refine JF.xb (fun y4 m5 h6 => ?_)
      refine j_callVi (pc := 24) (st := []) E (kX2_linesOf h6) mv_X2_linesOf rfl s_47 q_896 [.int y1] rfl rfl rfl (by decide) (Nat.le_of_ble_eq_true rfl) dX9_fewestOrHowMany_24 ?_
      exact j_iret (pc := 27) E R dX9_fewestOrHowMany_27
def fX9_shortest (N : Nat) (σ : XS) (p1 : Int32) (p2 : Int32) (p3 : Int32) : Option XO := xB (fX9_areKnown N σ p1 p2) (fun y1 m2 => if y1 = 0 then some ((-2), m2) else if p3 < 0 then some ((-3), m2) else if p3 ≤ 1 then xB (fX1_ask N m2 p1 p2) (fun _ m5 => xB (fX9_fewestOrHowMany N m5 p3) (fun y7 m8 => some (y7, m8))) else some ((-3), m2))
set_option maxRecDepth 100000 in
set_option maxHeartbeats 4000000 in
theorem kX9_shortest {N : Nat} {σ : XS} {p1 : Int32} {p2 : Int32} {p3 : Int32} {o : XO} (h : fX9_shortest N σ p1 p2 p3 = some o) : CtI yX9_shortest cX9_shortest 4 (some .int) 7 161 (fun Am ad => [.ref (Am 0), .int p1, .int p2, .int p3]) σ o := by
  refine ct_int (by decide) (fun _ _ => Nat.le_of_ble_eq_true rfl) (fun X E R => ?_)
  rw [← h]
  show JF X o 4 0 [(0, .ref (xa X 0)), (1, .int p1), (2, .int p2), (3, .int p3)] [] σ (xB (fX9_areKnown N σ p1 p2) (fun y1 m2 => if y1 = 0 then some ((-2), m2) else if p3 < 0 then some ((-3), m2) else if p3 ≤ 1 then xB (fX1_ask N m2 p1 p2) (fun _ m5 => xB (fX9_fewestOrHowMany N m5 p3) (fun y7 m8 => some (y7, m8))) else some ((-3), m2)))
  refine j_aload_n (pc := 0) rfl 0 rfl E dX9_shortest_0 ?_
  refine j_iload_n (pc := 1) rfl 1 rfl E dX9_shortest_1 ?_
  refine j_iload_n (pc := 2) rfl 2 rfl E dX9_shortest_2 ?_
  refine JF.xb (fun y1 m2 h3 => ?_)
  refine j_callVi (pc := 3) (st := []) E (kX9_areKnown h3) mv_X9_areKnown rfl s_0 q_723 [.int p1, .int p2] rfl rfl rfl (by decide) (Nat.le_of_ble_eq_true rfl) dX9_shortest_3 ?_
  refine j_if_ne (pc := 6) (tgt := 12) E dX9_shortest_6 (by decide) ?_ ?_
  · refine j_bipush (pc := 9) (v := (-2)) (by decide) E dX9_shortest_9 ?_
    exact j_iret (pc := 11) E R dX9_shortest_11
  · refine j_iload_n (pc := 12) rfl 3 rfl E dX9_shortest_12 ?_
    refine j_if_lt (pc := 13) (tgt := 21) E dX9_shortest_13 (by decide) ?_ ?_
    · refine j_bipush (pc := 21) (v := (-3)) (by decide) E dX9_shortest_21 ?_
      exact j_iret (pc := 23) E R dX9_shortest_23
    · refine j_iload_n (pc := 16) rfl 3 rfl E dX9_shortest_16 ?_
      refine j_iconst (pc := 17) (v := 1) (by decide) E dX9_shortest_17 ?_
      refine j_icmp_le (pc := 18) (tgt := 24) E dX9_shortest_18 (by decide) ?_ ?_
      · refine j_aload_n (pc := 24) rfl 0 rfl E dX9_shortest_24 ?_
        refine j_get (pc := 25) E xuX9 rfl s_0 (k := 4) (by decide) q_393 rfl (xflds_ref rfl) dX9_shortest_25 ?_
        refine j_iload_n (pc := 28) rfl 1 rfl E dX9_shortest_28 ?_
        refine j_iload_n (pc := 29) rfl 2 rfl E dX9_shortest_29 ?_
        refine JF.xb (fun y4 m5 h6 => ?_)
        refine j_callVv (pc := 30) (st := []) E (kX1_ask h6) mv_X1_ask rfl s_46 q_831 [.int p1, .int p2] rfl rfl rfl (by decide) (Nat.le_of_ble_eq_true rfl) dX9_shortest_30 ?_
        refine j_aload_n (pc := 33) rfl 0 rfl E dX9_shortest_33 ?_
        refine j_iload_n (pc := 34) rfl 3 rfl E dX9_shortest_34 ?_
        refine JF.xb (fun y7 m8 h9 => ?_)
        refine j_callVi (pc := 35) (st := []) E (kX9_fewestOrHowMany h9) mv_X9_fewestOrHowMany rfl s_0 q_848 [.int p3] rfl rfl rfl (by decide) (Nat.le_of_ble_eq_true rfl) dX9_shortest_35 ?_
        exact j_iret (pc := 38) E R dX9_shortest_38
      · refine j_bipush (pc := 21) (v := (-3)) (by decide) E dX9_shortest_21 ?_
        exact j_iret (pc := 23) E R dX9_shortest_23
def fX9_shortestWord (N : Nat) (σ : XS) (p1 : Int32) (p2 : Int32) (p3 : Int32) : Option XO := xB (fX9_areKnown N σ p1 p2) (fun y1 m2 => if y1 = 0 then some ((-2), m2) else if 0 ≤ p3 then xB (fX1_ask N m2 p1 p2) (fun _ m5 => xB (fX2_fewestWords N m5) (fun y7 m8 => xB (fX2_findFirst N m8 y7) (fun _ m11 => xB (fX4_wordAt N m11 64 p3) (fun y13 m14 => some (y13, m14))))) else some ((-3), m2))
set_option maxRecDepth 100000 in
set_option maxHeartbeats 4000000 in
theorem kX9_shortestWord {N : Nat} {σ : XS} {p1 : Int32} {p2 : Int32} {p3 : Int32} {o : XO} (h : fX9_shortestWord N σ p1 p2 p3 = some o) : CtI yX9_shortestWord cX9_shortestWord 4 (some .int) 6 141 (fun Am ad => [.ref (Am 0), .int p1, .int p2, .int p3]) σ o := by
  refine ct_int (by decide) (fun _ _ => Nat.le_of_ble_eq_true rfl) (fun X E R => ?_)
  rw [← h]
  show JF X o 4 0 [(0, .ref (xa X 0)), (1, .int p1), (2, .int p2), (3, .int p3)] [] σ (xB (fX9_areKnown N σ p1 p2) (fun y1 m2 => if y1 = 0 then some ((-2), m2) else if 0 ≤ p3 then xB (fX1_ask N m2 p1 p2) (fun _ m5 => xB (fX2_fewestWords N m5) (fun y7 m8 => xB (fX2_findFirst N m8 y7) (fun _ m11 => xB (fX4_wordAt N m11 64 p3) (fun y13 m14 => some (y13, m14))))) else some ((-3), m2)))
  refine j_aload_n (pc := 0) rfl 0 rfl E dX9_shortestWord_0 ?_
  refine j_iload_n (pc := 1) rfl 1 rfl E dX9_shortestWord_1 ?_
  refine j_iload_n (pc := 2) rfl 2 rfl E dX9_shortestWord_2 ?_
  refine JF.xb (fun y1 m2 h3 => ?_)
  refine j_callVi (pc := 3) (st := []) E (kX9_areKnown h3) mv_X9_areKnown rfl s_0 q_723 [.int p1, .int p2] rfl rfl rfl (by decide) (Nat.le_of_ble_eq_true rfl) dX9_shortestWord_3 ?_
  refine j_if_ne (pc := 6) (tgt := 12) E dX9_shortestWord_6 (by decide) ?_ ?_
  · refine j_bipush (pc := 9) (v := (-2)) (by decide) E dX9_shortestWord_9 ?_
    exact j_iret (pc := 11) E R dX9_shortestWord_11
  · refine j_iload_n (pc := 12) rfl 3 rfl E dX9_shortestWord_12 ?_
    refine j_if_ge (pc := 13) (tgt := 19) E dX9_shortestWord_13 (by decide) ?_ ?_
    · refine j_aload_n (pc := 19) rfl 0 rfl E dX9_shortestWord_19 ?_
      refine j_get (pc := 20) E xuX9 rfl s_0 (k := 4) (by decide) q_393 rfl (xflds_ref rfl) dX9_shortestWord_20 ?_
      refine j_iload_n (pc := 23) rfl 1 rfl E dX9_shortestWord_23 ?_
      refine j_iload_n (pc := 24) rfl 2 rfl E dX9_shortestWord_24 ?_
      refine JF.xb (fun y4 m5 h6 => ?_)
      refine j_callVv (pc := 25) (st := []) E (kX1_ask h6) mv_X1_ask rfl s_46 q_831 [.int p1, .int p2] rfl rfl rfl (by decide) (Nat.le_of_ble_eq_true rfl) dX9_shortestWord_25 ?_
      refine j_aload_n (pc := 28) rfl 0 rfl E dX9_shortestWord_28 ?_
      refine j_get (pc := 29) E xuX9 rfl s_0 (k := 5) (by decide) q_394 rfl (xflds_ref rfl) dX9_shortestWord_29 ?_
      refine j_aload_n (pc := 32) rfl 0 rfl E dX9_shortestWord_32 ?_
      refine j_get (pc := 33) E xuX9 rfl s_0 (k := 5) (by decide) q_394 rfl (xflds_ref rfl) dX9_shortestWord_33 ?_
      refine JF.xb (fun y7 m8 h9 => ?_)
      refine j_callVi (pc := 36) (st := [.ref (xa X 47)]) E (kX2_fewestWords h9) mv_X2_fewestWords rfl s_47 q_852 [] rfl rfl rfl (by decide) (Nat.le_of_ble_eq_true rfl) dX9_shortestWord_36 ?_
      refine JF.xb (fun y10 m11 h12 => ?_)
      refine j_callVv (pc := 39) (st := []) E (kX2_findFirst h12) mv_X2_findFirst rfl s_47 q_904 [.int y7] rfl rfl rfl (by decide) (Nat.le_of_ble_eq_true rfl) dX9_shortestWord_39 ?_
      refine j_aload_n (pc := 42) rfl 0 rfl E dX9_shortestWord_42 ?_
      refine j_get (pc := 43) E xuX9 rfl s_0 (k := 5) (by decide) q_394 rfl (xflds_ref rfl) dX9_shortestWord_43 ?_
      refine j_get (pc := 46) E xuX2 rfl s_47 (k := 6) (by decide) q_289 rfl (xflds_ref rfl) dX9_shortestWord_46 ?_
      refine j_iload_n (pc := 49) rfl 3 rfl E dX9_shortestWord_49 ?_
      refine JF.xb (fun y13 m14 h15 => ?_)
      refine j_callVi (pc := 50) (st := []) E (kX4_wordAt xl_64 h15) mv_X4_wordAt rfl s_64 q_702 [.int p3] rfl rfl rfl (by decide) (Nat.le_of_ble_eq_true rfl) dX9_shortestWord_50 ?_
      exact j_iret (pc := 53) E R dX9_shortestWord_53
    · refine j_bipush (pc := 16) (v := (-3)) (by decide) E dX9_shortestWord_16 ?_
      exact j_iret (pc := 18) E R dX9_shortestWord_18
def fX9_forAll (N : Nat) (σ : XS) (p1 : Int32) (p2 : Int32) : Option XO := xB (fX8_isWare N σ p1) (fun y1 m2 => if y1 = 0 then some ((-2), m2) else if p2 < 0 then some ((-3), m2) else if p2 ≤ 1 then if (m2 1 11) = 0 then some ((-4), m2) else xB (fX1_askForAll N m2 p1) (fun _ m5 => xB (fX9_fewestOrHowMany N m5 p2) (fun y7 m8 => some (y7, m8))) else some ((-3), m2))
set_option maxRecDepth 100000 in
set_option maxHeartbeats 4000000 in
theorem kX9_forAll {N : Nat} {σ : XS} {p1 : Int32} {p2 : Int32} {o : XO} (h : fX9_forAll N σ p1 p2 = some o) : CtI yX9_forAll cX9_forAll 3 (some .int) 7 161 (fun Am ad => [.ref (Am 0), .int p1, .int p2]) σ o := by
  refine ct_int (by decide) (fun _ _ => Nat.le_of_ble_eq_true rfl) (fun X E R => ?_)
  rw [← h]
  show JF X o 3 0 [(0, .ref (xa X 0)), (1, .int p1), (2, .int p2)] [] σ (xB (fX8_isWare N σ p1) (fun y1 m2 => if y1 = 0 then some ((-2), m2) else if p2 < 0 then some ((-3), m2) else if p2 ≤ 1 then if (m2 1 11) = 0 then some ((-4), m2) else xB (fX1_askForAll N m2 p1) (fun _ m5 => xB (fX9_fewestOrHowMany N m5 p2) (fun y7 m8 => some (y7, m8))) else some ((-3), m2)))
  refine j_aload_n (pc := 0) rfl 0 rfl E dX9_forAll_0 ?_
  refine j_get (pc := 1) E xuX9 rfl s_0 (k := 0) (by decide) q_389 rfl (xflds_ref rfl) dX9_forAll_1 ?_
  refine j_iload_n (pc := 4) rfl 1 rfl E dX9_forAll_4 ?_
  refine JF.xb (fun y1 m2 h3 => ?_)
  refine j_callVi (pc := 5) (st := []) E (kX8_isWare h3) mv_X8_isWare rfl s_1 q_617 [.int p1] rfl rfl rfl (by decide) (Nat.le_of_ble_eq_true rfl) dX9_forAll_5 ?_
  refine j_if_ne (pc := 8) (tgt := 14) E dX9_forAll_8 (by decide) ?_ ?_
  · refine j_bipush (pc := 11) (v := (-2)) (by decide) E dX9_forAll_11 ?_
    exact j_iret (pc := 13) E R dX9_forAll_13
  · refine j_iload_n (pc := 14) rfl 2 rfl E dX9_forAll_14 ?_
    refine j_if_lt (pc := 15) (tgt := 23) E dX9_forAll_15 (by decide) ?_ ?_
    · refine j_bipush (pc := 23) (v := (-3)) (by decide) E dX9_forAll_23 ?_
      exact j_iret (pc := 25) E R dX9_forAll_25
    · refine j_iload_n (pc := 18) rfl 2 rfl E dX9_forAll_18 ?_
      refine j_iconst (pc := 19) (v := 1) (by decide) E dX9_forAll_19 ?_
      refine j_icmp_le (pc := 20) (tgt := 26) E dX9_forAll_20 (by decide) ?_ ?_
      · refine j_aload_n (pc := 26) rfl 0 rfl E dX9_forAll_26 ?_
        refine j_get (pc := 27) E xuX9 rfl s_0 (k := 0) (by decide) q_389 rfl (xflds_ref rfl) dX9_forAll_27 ?_
        refine j_get (pc := 30) E xuX8 rfl s_1 (k := 11) (by decide) q_131 rfl (xflds_int rfl) dX9_forAll_30 ?_
        refine j_if_ne (pc := 33) (tgt := 39) E dX9_forAll_33 (by decide) ?_ ?_
        · refine j_bipush (pc := 36) (v := (-4)) (by decide) E dX9_forAll_36 ?_
          exact j_iret (pc := 38) E R dX9_forAll_38
        · refine j_aload_n (pc := 39) rfl 0 rfl E dX9_forAll_39 ?_
          refine j_get (pc := 40) E xuX9 rfl s_0 (k := 4) (by decide) q_393 rfl (xflds_ref rfl) dX9_forAll_40 ?_
          refine j_iload_n (pc := 43) rfl 1 rfl E dX9_forAll_43 ?_
          refine JF.xb (fun y4 m5 h6 => ?_)
          refine j_callVv (pc := 44) (st := []) E (kX1_askForAll h6) mv_X1_askForAll rfl s_46 q_918 [.int p1] rfl rfl rfl (by decide) (Nat.le_of_ble_eq_true rfl) dX9_forAll_44 ?_
          refine j_aload_n (pc := 47) rfl 0 rfl E dX9_forAll_47 ?_
          refine j_iload_n (pc := 48) rfl 2 rfl E dX9_forAll_48 ?_
          refine JF.xb (fun y7 m8 h9 => ?_)
          refine j_callVi (pc := 49) (st := []) E (kX9_fewestOrHowMany h9) mv_X9_fewestOrHowMany rfl s_0 q_848 [.int p2] rfl rfl rfl (by decide) (Nat.le_of_ble_eq_true rfl) dX9_forAll_49 ?_
          exact j_iret (pc := 52) E R dX9_forAll_52
      · refine j_bipush (pc := 23) (v := (-3)) (by decide) E dX9_forAll_23 ?_
        exact j_iret (pc := 25) E R dX9_forAll_25
def fX9_hidden (N : Nat) (σ : XS) (p1 : Int32) : Option XO := if p1 < 1 then some ((-3), σ) else if p1 ≤ 4 then xB (fX3_most N σ p1) (fun y1 m2 => some (y1, m2)) else some ((-3), σ)
set_option maxRecDepth 100000 in
set_option maxHeartbeats 4000000 in
theorem kX9_hidden {N : Nat} {σ : XS} {p1 : Int32} {o : XO} (h : fX9_hidden N σ p1 = some o) : CtI yX9_hidden cX9_hidden 2 (some .int) 3 71 (fun Am ad => [.ref (Am 0), .int p1]) σ o := by
  refine ct_int (by decide) (fun _ _ => Nat.le_of_ble_eq_true rfl) (fun X E R => ?_)
  rw [← h]
  show JF X o 2 0 [(0, .ref (xa X 0)), (1, .int p1)] [] σ (if p1 < 1 then some ((-3), σ) else if p1 ≤ 4 then xB (fX3_most N σ p1) (fun y1 m2 => some (y1, m2)) else some ((-3), σ))
  refine j_iload_n (pc := 0) rfl 1 rfl E dX9_hidden_0 ?_
  refine j_iconst (pc := 1) (v := 1) (by decide) E dX9_hidden_1 ?_
  refine j_icmp_lt (pc := 2) (tgt := 10) E dX9_hidden_2 (by decide) ?_ ?_
  · refine j_bipush (pc := 10) (v := (-3)) (by decide) E dX9_hidden_10 ?_
    exact j_iret (pc := 12) E R dX9_hidden_12
  · refine j_iload_n (pc := 5) rfl 1 rfl E dX9_hidden_5 ?_
    refine j_iconst (pc := 6) (v := 4) (by decide) E dX9_hidden_6 ?_
    refine j_icmp_le (pc := 7) (tgt := 13) E dX9_hidden_7 (by decide) ?_ ?_
    · refine j_aload_n (pc := 13) rfl 0 rfl E dX9_hidden_13 ?_
      refine j_get (pc := 14) E xuX9 rfl s_0 (k := 6) (by decide) q_395 rfl (xflds_ref rfl) dX9_hidden_14 ?_
      refine j_iload_n (pc := 17) rfl 1 rfl E dX9_hidden_17 ?_
      refine JF.xb (fun y1 m2 h3 => ?_)
      refine j_callVi (pc := 18) (st := []) E (kX3_most h3) mv_X3_most rfl s_66 q_926 [.int p1] rfl rfl rfl (by decide) (Nat.le_of_ble_eq_true rfl) dX9_hidden_18 ?_
      exact j_iret (pc := 21) E R dX9_hidden_21
    · refine j_bipush (pc := 10) (v := (-3)) (by decide) E dX9_hidden_10 ?_
      exact j_iret (pc := 12) E R dX9_hidden_12
def fX9_altered (N : Nat) (σ : XS) (p1 : Int32) (p2 : Int32) (p3 : Int32) : Option XO := xB (fX9_areKnown N σ p1 p2) (fun y1 m2 => if y1 = 0 then some ((-2), m2) else if (-1) ≤ p3 then xB (fX1_ask N m2 p1 p2) (fun _ m5 => xB (fX2_fewestChanges N m5) (fun y7 m8 => if p3 = (-1) then some (y7, m8) else if y7 = (-1) then some (y7, m8) else xB (fX2_findFirst N m8 (m8 44 1)) (fun _ m11 => xB (fX4_wordAt N m11 64 p3) (fun y13 m14 => some (y13, m14))))) else some ((-3), m2))
set_option maxRecDepth 100000 in
set_option maxHeartbeats 4000000 in
theorem kX9_altered {N : Nat} {σ : XS} {p1 : Int32} {p2 : Int32} {p3 : Int32} {o : XO} (h : fX9_altered N σ p1 p2 p3 = some o) : CtI yX9_altered cX9_altered 5 (some .int) 6 141 (fun Am ad => [.ref (Am 0), .int p1, .int p2, .int p3]) σ o := by
  refine ct_int (by decide) (fun _ _ => Nat.le_of_ble_eq_true rfl) (fun X E R => ?_)
  rw [← h]
  show JF X o 5 0 [(0, .ref (xa X 0)), (1, .int p1), (2, .int p2), (3, .int p3)] [] σ (xB (fX9_areKnown N σ p1 p2) (fun y1 m2 => if y1 = 0 then some ((-2), m2) else if (-1) ≤ p3 then xB (fX1_ask N m2 p1 p2) (fun _ m5 => xB (fX2_fewestChanges N m5) (fun y7 m8 => if p3 = (-1) then some (y7, m8) else if y7 = (-1) then some (y7, m8) else xB (fX2_findFirst N m8 (m8 44 1)) (fun _ m11 => xB (fX4_wordAt N m11 64 p3) (fun y13 m14 => some (y13, m14))))) else some ((-3), m2)))
  refine j_aload_n (pc := 0) rfl 0 rfl E dX9_altered_0 ?_
  refine j_iload_n (pc := 1) rfl 1 rfl E dX9_altered_1 ?_
  refine j_iload_n (pc := 2) rfl 2 rfl E dX9_altered_2 ?_
  refine JF.xb (fun y1 m2 h3 => ?_)
  refine j_callVi (pc := 3) (st := []) E (kX9_areKnown h3) mv_X9_areKnown rfl s_0 q_723 [.int p1, .int p2] rfl rfl rfl (by decide) (Nat.le_of_ble_eq_true rfl) dX9_altered_3 ?_
  refine j_if_ne (pc := 6) (tgt := 12) E dX9_altered_6 (by decide) ?_ ?_
  · refine j_bipush (pc := 9) (v := (-2)) (by decide) E dX9_altered_9 ?_
    exact j_iret (pc := 11) E R dX9_altered_11
  · refine j_iload_n (pc := 12) rfl 3 rfl E dX9_altered_12 ?_
    refine j_iconst (pc := 13) (v := (-1)) (by decide) E dX9_altered_13 ?_
    refine j_icmp_ge (pc := 14) (tgt := 20) E dX9_altered_14 (by decide) ?_ ?_
    · refine j_aload_n (pc := 20) rfl 0 rfl E dX9_altered_20 ?_
      refine j_get (pc := 21) E xuX9 rfl s_0 (k := 4) (by decide) q_393 rfl (xflds_ref rfl) dX9_altered_21 ?_
      refine j_iload_n (pc := 24) rfl 1 rfl E dX9_altered_24 ?_
      refine j_iload_n (pc := 25) rfl 2 rfl E dX9_altered_25 ?_
      refine JF.xb (fun y4 m5 h6 => ?_)
      refine j_callVv (pc := 26) (st := []) E (kX1_ask h6) mv_X1_ask rfl s_46 q_831 [.int p1, .int p2] rfl rfl rfl (by decide) (Nat.le_of_ble_eq_true rfl) dX9_altered_26 ?_
      refine j_aload_n (pc := 29) rfl 0 rfl E dX9_altered_29 ?_
      refine j_get (pc := 30) E xuX9 rfl s_0 (k := 5) (by decide) q_394 rfl (xflds_ref rfl) dX9_altered_30 ?_
      refine JF.xb (fun y7 m8 h9 => ?_)
      refine j_callVi (pc := 33) (st := []) E (kX2_fewestChanges h9) mv_X2_fewestChanges rfl s_47 q_943 [] rfl rfl rfl (by decide) (Nat.le_of_ble_eq_true rfl) dX9_altered_33 ?_
      refine j_istore (pc := 36) (lv1 := [(4, .int y7), (0, .ref (xa X 0)), (1, .int p1), (2, .int p2), (3, .int p3)]) E dX9_altered_36 (by decide) rfl ?_
      refine j_iload_n (pc := 38) rfl 4 rfl E dX9_altered_38 ?_
      refine j_iconst (pc := 39) (v := (-1)) (by decide) E dX9_altered_39 ?_
      refine j_icmp_eq (pc := 40) (tgt := 49) E dX9_altered_40 (by decide) ?_ ?_
      · refine j_iload (pc := 49) 0 rfl E dX9_altered_49 ?_
        exact j_iret (pc := 51) E R dX9_altered_51
      · refine j_iload (pc := 43) 0 rfl E dX9_altered_43 ?_
        refine j_iconst (pc := 45) (v := (-1)) (by decide) E dX9_altered_45 ?_
        refine j_icmp_ne (pc := 46) (tgt := 52) E dX9_altered_46 (by decide) ?_ ?_
        · refine j_iload (pc := 49) 0 rfl E dX9_altered_49 ?_
          exact j_iret (pc := 51) E R dX9_altered_51
        · refine j_aload_n (pc := 52) rfl 1 rfl E dX9_altered_52 ?_
          refine j_get (pc := 53) E xuX9 rfl s_0 (k := 5) (by decide) q_394 rfl (xflds_ref rfl) dX9_altered_53 ?_
          refine j_aload_n (pc := 56) rfl 1 rfl E dX9_altered_56 ?_
          refine j_get (pc := 57) E xuX9 rfl s_0 (k := 3) (by decide) q_392 rfl (xflds_ref rfl) dX9_altered_57 ?_
          refine j_get (pc := 60) E xuX4 rfl s_44 (k := 1) (by decide) q_243 rfl (xflds_int rfl) dX9_altered_60 ?_
          refine JF.xb (fun y10 m11 h12 => ?_)
          refine j_callVv (pc := 63) (st := []) E (kX2_findFirst h12) mv_X2_findFirst rfl s_47 q_904 [.int (m8 44 1)] rfl rfl rfl (by decide) (Nat.le_of_ble_eq_true rfl) dX9_altered_63 ?_
          refine j_aload_n (pc := 66) rfl 1 rfl E dX9_altered_66 ?_
          refine j_get (pc := 67) E xuX9 rfl s_0 (k := 5) (by decide) q_394 rfl (xflds_ref rfl) dX9_altered_67 ?_
          refine j_get (pc := 70) E xuX2 rfl s_47 (k := 6) (by decide) q_289 rfl (xflds_ref rfl) dX9_altered_70 ?_
          refine j_iload_n (pc := 73) rfl 4 rfl E dX9_altered_73 ?_
          refine JF.xb (fun y13 m14 h15 => ?_)
          refine j_callVi (pc := 74) (st := []) E (kX4_wordAt xl_64 h15) mv_X4_wordAt rfl s_64 q_702 [.int p3] rfl rfl rfl (by decide) (Nat.le_of_ble_eq_true rfl) dX9_altered_74 ?_
          exact j_iret (pc := 77) E R dX9_altered_77
    · refine j_bipush (pc := 17) (v := (-3)) (by decide) E dX9_altered_17 ?_
      exact j_iret (pc := 19) E R dX9_altered_19
def fX9_laden (N : Nat) (σ : XS) (p1 : Int32) (p2 : Int32) : Option XO := if p1 < 1 then some ((-3), σ) else if 72 < p1 then some ((-3), σ) else if p2 < 0 then some ((-3), σ) else if p2 ≤ 2 then xB (fX6_load N σ p1) (fun _ m2 => if p2 = 0 then some ((m2 73 2), m2) else if p2 = 1 then some ((m2 73 3), m2) else some ((m2 73 4), m2)) else some ((-3), σ)
set_option maxRecDepth 100000 in
set_option maxHeartbeats 4000000 in
theorem kX9_laden {N : Nat} {σ : XS} {p1 : Int32} {p2 : Int32} {o : XO} (h : fX9_laden N σ p1 p2 = some o) : CtI yX9_laden cX9_laden 3 (some .int) 3 70 (fun Am ad => [.ref (Am 0), .int p1, .int p2]) σ o := by
  refine ct_int (by decide) (fun _ _ => Nat.le_of_ble_eq_true rfl) (fun X E R => ?_)
  rw [← h]
  show JF X o 3 0 [(0, .ref (xa X 0)), (1, .int p1), (2, .int p2)] [] σ (if p1 < 1 then some ((-3), σ) else if 72 < p1 then some ((-3), σ) else if p2 < 0 then some ((-3), σ) else if p2 ≤ 2 then xB (fX6_load N σ p1) (fun _ m2 => if p2 = 0 then some ((m2 73 2), m2) else if p2 = 1 then some ((m2 73 3), m2) else some ((m2 73 4), m2)) else some ((-3), σ))
  refine j_iload_n (pc := 0) rfl 1 rfl E dX9_laden_0 ?_
  refine j_iconst (pc := 1) (v := 1) (by decide) E dX9_laden_1 ?_
  refine j_icmp_lt (pc := 2) (tgt := 20) E dX9_laden_2 (by decide) ?_ ?_
  · refine j_bipush (pc := 20) (v := (-3)) (by decide) E dX9_laden_20 ?_
    exact j_iret (pc := 22) E R dX9_laden_22
  · refine j_iload_n (pc := 5) rfl 1 rfl E dX9_laden_5 ?_
    refine j_bipush (pc := 6) (v := 72) (by decide) E dX9_laden_6 ?_
    refine j_icmp_gt (pc := 8) (tgt := 20) E dX9_laden_8 (by decide) ?_ ?_
    · refine j_bipush (pc := 20) (v := (-3)) (by decide) E dX9_laden_20 ?_
      exact j_iret (pc := 22) E R dX9_laden_22
    · refine j_iload_n (pc := 11) rfl 2 rfl E dX9_laden_11 ?_
      refine j_if_lt (pc := 12) (tgt := 20) E dX9_laden_12 (by decide) ?_ ?_
      · refine j_bipush (pc := 20) (v := (-3)) (by decide) E dX9_laden_20 ?_
        exact j_iret (pc := 22) E R dX9_laden_22
      · refine j_iload_n (pc := 15) rfl 2 rfl E dX9_laden_15 ?_
        refine j_iconst (pc := 16) (v := 2) (by decide) E dX9_laden_16 ?_
        refine j_icmp_le (pc := 17) (tgt := 23) E dX9_laden_17 (by decide) ?_ ?_
        · refine j_aload_n (pc := 23) rfl 0 rfl E dX9_laden_23 ?_
          refine j_get (pc := 24) E xuX9 rfl s_0 (k := 7) (by decide) q_396 rfl (xflds_ref rfl) dX9_laden_24 ?_
          refine j_iload_n (pc := 27) rfl 1 rfl E dX9_laden_27 ?_
          refine JF.xb (fun y1 m2 h3 => ?_)
          refine j_callVv (pc := 28) (st := []) E (kX6_load h3) mv_X6_load rfl s_73 q_951 [.int p1] rfl rfl rfl (by decide) (Nat.le_of_ble_eq_true rfl) dX9_laden_28 ?_
          refine j_iload_n (pc := 31) rfl 2 rfl E dX9_laden_31 ?_
          refine j_if_ne (pc := 32) (tgt := 43) E dX9_laden_32 (by decide) ?_ ?_
          · refine j_aload_n (pc := 35) rfl 0 rfl E dX9_laden_35 ?_
            refine j_get (pc := 36) E xuX9 rfl s_0 (k := 7) (by decide) q_396 rfl (xflds_ref rfl) dX9_laden_36 ?_
            refine j_get (pc := 39) E xuX6 rfl s_73 (k := 2) (by decide) q_328 rfl (xflds_int rfl) dX9_laden_39 ?_
            exact j_iret (pc := 42) E R dX9_laden_42
          · refine j_iload_n (pc := 43) rfl 2 rfl E dX9_laden_43 ?_
            refine j_iconst (pc := 44) (v := 1) (by decide) E dX9_laden_44 ?_
            refine j_icmp_ne (pc := 45) (tgt := 58) E dX9_laden_45 (by decide) ?_ ?_
            · refine j_aload_n (pc := 48) rfl 0 rfl E dX9_laden_48 ?_
              refine j_get (pc := 49) E xuX9 rfl s_0 (k := 7) (by decide) q_396 rfl (xflds_ref rfl) dX9_laden_49 ?_
              refine j_get (pc := 52) E xuX6 rfl s_73 (k := 3) (by decide) q_330 rfl (xflds_int rfl) dX9_laden_52 ?_
              refine j_goto (pc := 55) (tgt := 65) E dX9_laden_55 (by decide) ?_
              exact j_iret (pc := 65) E R dX9_laden_65
            · refine j_aload_n (pc := 58) rfl 0 rfl E dX9_laden_58 ?_
              refine j_get (pc := 59) E xuX9 rfl s_0 (k := 7) (by decide) q_396 rfl (xflds_ref rfl) dX9_laden_59 ?_
              refine j_get (pc := 62) E xuX6 rfl s_73 (k := 4) (by decide) q_332 rfl (xflds_int rfl) dX9_laden_62 ?_
              exact j_iret (pc := 65) E R dX9_laden_65
        · refine j_bipush (pc := 20) (v := (-3)) (by decide) E dX9_laden_20 ?_
          exact j_iret (pc := 22) E R dX9_laden_22
def fX9_portsWornOut_L4 (N : Nat) (k49 : Int32 → XS → Option XO) : Nat → Int32 → Int32 → XS → Option XO
  | 0, _, _, _ => none
  | n + 1, v1, v2, σ => if 4 ≤ v2 then k49 v1 σ else xB (fX8_rhymeOfPort N σ v2) (fun y1 m2 => xB (fX0_usesOf N m2 y1) (fun y4 m5 => xB (fX8_isWorn N m5 y1 y4) (fun y7 m8 => if y7 = 0 then fX9_portsWornOut_L4 N k49 n v1 (v2 + 1) m8 else xLetI (v1 ||| (1 <<< (v2 &&& 31))) (fun x10 => fX9_portsWornOut_L4 N k49 n x10 (v2 + 1) m8))))
set_option maxRecDepth 100000 in
set_option maxHeartbeats 4000000 in
theorem lX9_portsWornOut_L4 (N : Nat) (k49 : Int32 → XS → Option XO) {X : XC} {o : XO} (E : XE X cX9_portsWornOut RX9 4 2 43) (R : XI X o cX9_portsWornOut) (K49 : ∀ (v1 : Int32) (σ : XS), JF X o 4 49 [(1, .int v1)] [] σ (k49 v1 σ)) : ∀ (n : Nat) (v1 : Int32) (v2 : Int32) (σ : XS), JF X o 4 4 [(0, .ref (xa X 0)), (1, .int v1), (2, .int v2)] [] σ (fX9_portsWornOut_L4 N k49 n v1 v2 σ) := by
  intro n
  induction n with
  | zero => intro v1 v2 σ; exact JF.none
  | succ n ih =>
    intro v1 v2 σ
    show JF X o 4 4 [(0, .ref (xa X 0)), (1, .int v1), (2, .int v2)] [] σ (if 4 ≤ v2 then k49 v1 σ else xB (fX8_rhymeOfPort N σ v2) (fun y1 m2 => xB (fX0_usesOf N m2 y1) (fun y4 m5 => xB (fX8_isWorn N m5 y1 y4) (fun y7 m8 => if y7 = 0 then fX9_portsWornOut_L4 N k49 n v1 (v2 + 1) m8 else xLetI (v1 ||| (1 <<< (v2 &&& 31))) (fun x10 => fX9_portsWornOut_L4 N k49 n x10 (v2 + 1) m8)))))
    refine j_iload_n (pc := 4) rfl 2 rfl E dX9_portsWornOut_4 ?_
    refine j_iconst (pc := 5) (v := 4) (by decide) E dX9_portsWornOut_5 ?_
    refine j_icmp_ge (pc := 6) (tgt := 49) E dX9_portsWornOut_6 (by decide) ?_ ?_
    · refine JF.sub [1] rfl ?_
      exact K49 v1 σ
    · refine j_aload_n (pc := 9) rfl 0 rfl E dX9_portsWornOut_9 ?_
      refine j_get (pc := 10) E xuX9 rfl s_0 (k := 0) (by decide) q_389 rfl (xflds_ref rfl) dX9_portsWornOut_10 ?_
      refine j_iload_n (pc := 13) rfl 2 rfl E dX9_portsWornOut_13 ?_
      refine JF.xb (fun y1 m2 h3 => ?_)
      refine j_callVi (pc := 14) (st := []) E (kX8_rhymeOfPort h3) mv_X8_rhymeOfPort rfl s_1 q_970 [.int v2] rfl rfl rfl (by decide) (Nat.le_of_ble_eq_true rfl) dX9_portsWornOut_14 ?_
      refine j_istore_n (pc := 17) (lv1 := [(3, .int y1), (0, .ref (xa X 0)), (1, .int v1), (2, .int v2)]) E dX9_portsWornOut_17 rfl (by decide) rfl ?_
      refine j_aload_n (pc := 18) rfl 1 rfl E dX9_portsWornOut_18 ?_
      refine j_get (pc := 19) E xuX9 rfl s_0 (k := 0) (by decide) q_389 rfl (xflds_ref rfl) dX9_portsWornOut_19 ?_
      refine j_iload_n (pc := 22) rfl 0 rfl E dX9_portsWornOut_22 ?_
      refine j_aload_n (pc := 23) rfl 1 rfl E dX9_portsWornOut_23 ?_
      refine j_get (pc := 24) E xuX9 rfl s_0 (k := 2) (by decide) q_391 rfl (xflds_ref rfl) dX9_portsWornOut_24 ?_
      refine j_iload_n (pc := 27) rfl 0 rfl E dX9_portsWornOut_27 ?_
      refine JF.xb (fun y4 m5 h6 => ?_)
      refine j_callVi (pc := 28) (st := [.int y1, .ref (xa X 1)]) E (kX0_usesOf h6) mv_X0_usesOf rfl s_29 q_637 [.int y1] rfl rfl rfl (by decide) (Nat.le_of_ble_eq_true rfl) dX9_portsWornOut_28 ?_
      refine JF.xb (fun y7 m8 h9 => ?_)
      refine j_callVi (pc := 31) (st := []) E (kX8_isWorn h9) mv_X8_isWorn rfl s_1 q_774 [.int y1, .int y4] rfl rfl rfl (by decide) (Nat.le_of_ble_eq_true rfl) dX9_portsWornOut_31 ?_
      refine j_if_eq (pc := 34) (tgt := 43) E dX9_portsWornOut_34 (by decide) ?_ ?_
      · refine j_iinc (pc := 43) (v := (v2 + 1)) (lv1 := [(2, .int (v2 + 1)), (3, .int y1), (0, .ref (xa X 0)), (1, .int v1)]) E dX9_portsWornOut_43 3 rfl rfl (by decide) rfl ?_
        refine j_goto (pc := 46) (tgt := 4) E dX9_portsWornOut_46 (by decide) ?_
        refine JF.sub [2, 3, 0] rfl ?_
        exact ih v1 (v2 + 1) m8
      · refine j_iload_n (pc := 37) rfl 2 rfl E dX9_portsWornOut_37 ?_
        refine j_iconst (pc := 38) (v := 1) (by decide) E dX9_portsWornOut_38 ?_
        refine j_iload_n (pc := 39) rfl 3 rfl E dX9_portsWornOut_39 ?_
        refine j_ishl (pc := 40) E dX9_portsWornOut_40 ?_
        refine j_ior (pc := 41) E dX9_portsWornOut_41 ?_
        refine JF.xletI (fun x10 => ?_)
        refine j_istore_n (pc := 42) (lv1 := [(1, .int x10), (3, .int y1), (0, .ref (xa X 0)), (2, .int v2)]) E dX9_portsWornOut_42 rfl (by decide) rfl ?_
        refine j_iinc (pc := 43) (v := (v2 + 1)) (lv1 := [(2, .int (v2 + 1)), (1, .int x10), (3, .int y1), (0, .ref (xa X 0))]) E dX9_portsWornOut_43 3 rfl rfl (by decide) rfl ?_
        refine j_goto (pc := 46) (tgt := 4) E dX9_portsWornOut_46 (by decide) ?_
        refine JF.sub [3, 1, 0] rfl ?_
        exact ih x10 (v2 + 1) m8
def fX9_portsWornOut (N : Nat) (σ : XS) : Option XO := fX9_portsWornOut_L4 N (fun x11 m12 => some (x11, m12)) N 0 0 σ
set_option maxRecDepth 100000 in
set_option maxHeartbeats 4000000 in
theorem kX9_portsWornOut {N : Nat} {σ : XS} {o : XO} (h : fX9_portsWornOut N σ = some o) : CtI yX9_portsWornOut cX9_portsWornOut 4 (some .int) 2 43 (fun Am ad => [.ref (Am 0)]) σ o := by
  refine ct_int (by decide) (fun _ _ => Nat.le_of_ble_eq_true rfl) (fun X E R => ?_)
  rw [← h]
  show JF X o 4 0 [(0, .ref (xa X 0))] [] σ (fX9_portsWornOut_L4 N (fun x11 m12 => some (x11, m12)) N 0 0 σ)
  refine j_iconst (pc := 0) (v := 0) (by decide) E dX9_portsWornOut_0 ?_
  refine j_istore_n (pc := 1) (lv1 := [(1, .int 0), (0, .ref (xa X 0))]) E dX9_portsWornOut_1 rfl (by decide) rfl ?_
  refine j_iconst (pc := 2) (v := 0) (by decide) E dX9_portsWornOut_2 ?_
  refine j_istore_n (pc := 3) (lv1 := [(2, .int 0), (1, .int 0), (0, .ref (xa X 0))]) E dX9_portsWornOut_3 rfl (by decide) rfl ?_
  refine JF.sub [2, 1, 0] rfl ?_
  refine lX9_portsWornOut_L4 N _ E R (fun x11 m12 => ?_) N 0 0 σ
  · refine j_iload_n (pc := 49) rfl 0 rfl E dX9_portsWornOut_49 ?_
    exact j_iret (pc := 50) E R dX9_portsWornOut_50
def fX9_waresThatRhymesAllow_L15 (N : Nat) (v1 : Int32) (v2 : Int32) (k71 : Int32 → XS → Option XO) : Nat → Int32 → Int32 → XS → Option XO
  | 0, _, _, _ => none
  | n + 1, v3, v4, σ => if (σ 1 10) ≤ v4 then k71 v3 σ else xB (fX0_fateOf N σ v4) (fun y1 m2 => if y1 = 0 then xB (fX9_at N m2 8 v4) (fun y4 m5 => xB (fX8_rhymeOfPort N m5 y4) (fun y7 m8 => if y7 = v2 then fX9_waresThatRhymesAllow_L15 N v1 v2 k71 n (v3 + 1) (v4 + 1) m8 else fX9_waresThatRhymesAllow_L15 N v1 v2 k71 n v3 (v4 + 1) m8)) else fX9_waresThatRhymesAllow_L15 N v1 v2 k71 n v3 (v4 + 1) m2)
set_option maxRecDepth 100000 in
set_option maxHeartbeats 4000000 in
theorem lX9_waresThatRhymesAllow_L15 (N : Nat) (v1 : Int32) (v2 : Int32) (k71 : Int32 → XS → Option XO) {X : XC} {o : XO} (E : XE X cX9_waresThatRhymesAllow RX9 5 2 42) (R : XI X o cX9_waresThatRhymesAllow) (K71 : ∀ (v3 : Int32) (σ : XS), JF X o 5 71 [(0, .ref (xa X 0)), (1, .int v1), (2, .int v2), (3, .int v3)] [] σ (k71 v3 σ)) : ∀ (n : Nat) (v3 : Int32) (v4 : Int32) (σ : XS), JF X o 5 15 [(0, .ref (xa X 0)), (1, .int v1), (2, .int v2), (3, .int v3), (4, .int v4)] [] σ (fX9_waresThatRhymesAllow_L15 N v1 v2 k71 n v3 v4 σ) := by
  intro n
  induction n with
  | zero => intro v3 v4 σ; exact JF.none
  | succ n ih =>
    intro v3 v4 σ
    show JF X o 5 15 [(0, .ref (xa X 0)), (1, .int v1), (2, .int v2), (3, .int v3), (4, .int v4)] [] σ (if (σ 1 10) ≤ v4 then k71 v3 σ else xB (fX0_fateOf N σ v4) (fun y1 m2 => if y1 = 0 then xB (fX9_at N m2 8 v4) (fun y4 m5 => xB (fX8_rhymeOfPort N m5 y4) (fun y7 m8 => if y7 = v2 then fX9_waresThatRhymesAllow_L15 N v1 v2 k71 n (v3 + 1) (v4 + 1) m8 else fX9_waresThatRhymesAllow_L15 N v1 v2 k71 n v3 (v4 + 1) m8)) else fX9_waresThatRhymesAllow_L15 N v1 v2 k71 n v3 (v4 + 1) m2))
    refine j_iload (pc := 15) 4 rfl E dX9_waresThatRhymesAllow_15 ?_
    refine j_aload_n (pc := 17) rfl 0 rfl E dX9_waresThatRhymesAllow_17 ?_
    refine j_get (pc := 18) E xuX9 rfl s_0 (k := 0) (by decide) q_389 rfl (xflds_ref rfl) dX9_waresThatRhymesAllow_18 ?_
    refine j_get (pc := 21) E xuX8 rfl s_1 (k := 10) (by decide) q_127 rfl (xflds_int rfl) dX9_waresThatRhymesAllow_21 ?_
    refine j_icmp_ge (pc := 24) (tgt := 71) E dX9_waresThatRhymesAllow_24 (by decide) ?_ ?_
    · refine JF.sub [0, 1, 2, 3] rfl ?_
      exact K71 v3 σ
    · refine j_aload_n (pc := 27) rfl 0 rfl E dX9_waresThatRhymesAllow_27 ?_
      refine j_get (pc := 28) E xuX9 rfl s_0 (k := 2) (by decide) q_391 rfl (xflds_ref rfl) dX9_waresThatRhymesAllow_28 ?_
      refine j_iload (pc := 31) 4 rfl E dX9_waresThatRhymesAllow_31 ?_
      refine JF.xb (fun y1 m2 h3 => ?_)
      refine j_callVi (pc := 33) (st := []) E (kX0_fateOf h3) mv_X0_fateOf rfl s_29 q_621 [.int v4] rfl rfl rfl (by decide) (Nat.le_of_ble_eq_true rfl) dX9_waresThatRhymesAllow_33 ?_
      refine j_if_ne (pc := 36) (tgt := 65) E dX9_waresThatRhymesAllow_36 (by decide) ?_ ?_
      · refine j_aload_n (pc := 39) rfl 0 rfl E dX9_waresThatRhymesAllow_39 ?_
        refine j_get (pc := 40) E xuX9 rfl s_0 (k := 0) (by decide) q_389 rfl (xflds_ref rfl) dX9_waresThatRhymesAllow_40 ?_
        refine j_aload_n (pc := 43) rfl 0 rfl E dX9_waresThatRhymesAllow_43 ?_
        refine j_get (pc := 44) E xuX9 rfl s_0 (k := 0) (by decide) q_389 rfl (xflds_ref rfl) dX9_waresThatRhymesAllow_44 ?_
        refine j_get (pc := 47) E xuX8 rfl s_1 (k := 6) (by decide) q_112 rfl (xflds_ref rfl) dX9_waresThatRhymesAllow_47 ?_
        refine j_iload (pc := 50) 4 rfl E dX9_waresThatRhymesAllow_50 ?_
        refine JF.xb (fun y4 m5 h6 => ?_)
        refine j_callSi (pc := 52) (st := [.ref (xa X 1)]) E (kX9_at xr_8 h6) mv_X9_at q_610 [.ref (xa X 8), .int v4] rfl rfl rfl (by decide) (Nat.le_of_ble_eq_true rfl) dX9_waresThatRhymesAllow_52 ?_
        refine JF.xb (fun y7 m8 h9 => ?_)
        refine j_callVi (pc := 55) (st := []) E (kX8_rhymeOfPort h9) mv_X8_rhymeOfPort rfl s_1 q_970 [.int y4] rfl rfl rfl (by decide) (Nat.le_of_ble_eq_true rfl) dX9_waresThatRhymesAllow_55 ?_
        refine j_iload_n (pc := 58) rfl 2 rfl E dX9_waresThatRhymesAllow_58 ?_
        refine j_icmp_ne (pc := 59) (tgt := 65) E dX9_waresThatRhymesAllow_59 (by decide) ?_ ?_
        · refine j_iinc (pc := 62) (v := (v3 + 1)) (lv1 := [(3, .int (v3 + 1)), (0, .ref (xa X 0)), (1, .int v1), (2, .int v2), (4, .int v4)]) E dX9_waresThatRhymesAllow_62 3 rfl rfl (by decide) rfl ?_
          refine j_iinc (pc := 65) (v := (v4 + 1)) (lv1 := [(4, .int (v4 + 1)), (3, .int (v3 + 1)), (0, .ref (xa X 0)), (1, .int v1), (2, .int v2)]) E dX9_waresThatRhymesAllow_65 4 rfl rfl (by decide) rfl ?_
          refine j_goto (pc := 68) (tgt := 15) E dX9_waresThatRhymesAllow_68 (by decide) ?_
          refine JF.sub [2, 3, 4, 1, 0] rfl ?_
          exact ih (v3 + 1) (v4 + 1) m8
        · refine j_iinc (pc := 65) (v := (v4 + 1)) (lv1 := [(4, .int (v4 + 1)), (0, .ref (xa X 0)), (1, .int v1), (2, .int v2), (3, .int v3)]) E dX9_waresThatRhymesAllow_65 4 rfl rfl (by decide) rfl ?_
          refine j_goto (pc := 68) (tgt := 15) E dX9_waresThatRhymesAllow_68 (by decide) ?_
          refine JF.sub [1, 2, 3, 4, 0] rfl ?_
          exact ih v3 (v4 + 1) m8
      · refine j_iinc (pc := 65) (v := (v4 + 1)) (lv1 := [(4, .int (v4 + 1)), (0, .ref (xa X 0)), (1, .int v1), (2, .int v2), (3, .int v3)]) E dX9_waresThatRhymesAllow_65 4 rfl rfl (by decide) rfl ?_
        refine j_goto (pc := 68) (tgt := 15) E dX9_waresThatRhymesAllow_68 (by decide) ?_
        refine JF.sub [1, 2, 3, 4, 0] rfl ?_
        exact ih v3 (v4 + 1) m2
def fX9_waresThatRhymesAllow_L4 (N : Nat) (k108 : Int32 → XS → Option XO) : Nat → Int32 → Int32 → XS → Option XO
  | 0, _, _, _ => none
  | n + 1, v1, v2, σ => if 6 ≤ v2 then k108 v1 σ else fX9_waresThatRhymesAllow_L15 N v1 v2 (fun x10 m11 => xB (fX9_at N m11 10 v2) (fun y12 m13 => xB (fX0_usesOf N m13 v2) (fun y15 m16 => xLetI (v1 + (if (if 0 < (y12 - y15) then (y12 - y15) else 0) < x10 then (if 0 < (y12 - y15) then (y12 - y15) else 0) else x10)) (fun x18 => fX9_waresThatRhymesAllow_L4 N k108 n x18 (v2 + 1) m16)))) N 0 0 σ
set_option maxRecDepth 100000 in
set_option maxHeartbeats 4000000 in
theorem lX9_waresThatRhymesAllow_L4 (N : Nat) (k108 : Int32 → XS → Option XO) {X : XC} {o : XO} (E : XE X cX9_waresThatRhymesAllow RX9 5 2 42) (R : XI X o cX9_waresThatRhymesAllow) (K108 : ∀ (v1 : Int32) (σ : XS), JF X o 5 108 [(1, .int v1)] [] σ (k108 v1 σ)) : ∀ (n : Nat) (v1 : Int32) (v2 : Int32) (σ : XS), JF X o 5 4 [(0, .ref (xa X 0)), (1, .int v1), (2, .int v2)] [] σ (fX9_waresThatRhymesAllow_L4 N k108 n v1 v2 σ) := by
  intro n
  induction n with
  | zero => intro v1 v2 σ; exact JF.none
  | succ n ih =>
    intro v1 v2 σ
    show JF X o 5 4 [(0, .ref (xa X 0)), (1, .int v1), (2, .int v2)] [] σ (if 6 ≤ v2 then k108 v1 σ else fX9_waresThatRhymesAllow_L15 N v1 v2 (fun x10 m11 => xB (fX9_at N m11 10 v2) (fun y12 m13 => xB (fX0_usesOf N m13 v2) (fun y15 m16 => xLetI (v1 + (if (if 0 < (y12 - y15) then (y12 - y15) else 0) < x10 then (if 0 < (y12 - y15) then (y12 - y15) else 0) else x10)) (fun x18 => fX9_waresThatRhymesAllow_L4 N k108 n x18 (v2 + 1) m16)))) N 0 0 σ)
    refine j_iload_n (pc := 4) rfl 2 rfl E dX9_waresThatRhymesAllow_4 ?_
    refine j_bipush (pc := 5) (v := 6) (by decide) E dX9_waresThatRhymesAllow_5 ?_
    refine j_icmp_ge (pc := 7) (tgt := 108) E dX9_waresThatRhymesAllow_7 (by decide) ?_ ?_
    · refine JF.sub [1] rfl ?_
      exact K108 v1 σ
    · refine j_iconst (pc := 10) (v := 0) (by decide) E dX9_waresThatRhymesAllow_10 ?_
      refine j_istore_n (pc := 11) (lv1 := [(3, .int 0), (0, .ref (xa X 0)), (1, .int v1), (2, .int v2)]) E dX9_waresThatRhymesAllow_11 rfl (by decide) rfl ?_
      refine j_iconst (pc := 12) (v := 0) (by decide) E dX9_waresThatRhymesAllow_12 ?_
      refine j_istore (pc := 13) (lv1 := [(4, .int 0), (3, .int 0), (0, .ref (xa X 0)), (1, .int v1), (2, .int v2)]) E dX9_waresThatRhymesAllow_13 (by decide) rfl ?_
      refine JF.sub [2, 3, 4, 1, 0] rfl ?_
      refine lX9_waresThatRhymesAllow_L15 N v1 v2 _ E R (fun x10 m11 => ?_) N 0 0 σ
      · refine j_iload_n (pc := 71) rfl 1 rfl E dX9_waresThatRhymesAllow_71 ?_
        refine j_iload_n (pc := 72) rfl 3 rfl E dX9_waresThatRhymesAllow_72 ?_
        refine j_iconst (pc := 73) (v := 0) (by decide) E dX9_waresThatRhymesAllow_73 ?_
        refine j_aload_n (pc := 74) rfl 0 rfl E dX9_waresThatRhymesAllow_74 ?_
        refine j_get (pc := 75) E xuX9 rfl s_0 (k := 0) (by decide) q_389 rfl (xflds_ref rfl) dX9_waresThatRhymesAllow_75 ?_
        refine j_get (pc := 78) E xuX8 rfl s_1 (k := 8) (by decide) q_116 rfl (xflds_ref rfl) dX9_waresThatRhymesAllow_78 ?_
        refine j_iload_n (pc := 81) rfl 2 rfl E dX9_waresThatRhymesAllow_81 ?_
        refine JF.xb (fun y12 m13 h14 => ?_)
        refine j_callSi (pc := 82) (st := [.int 0, .int x10, .int v1]) E (kX9_at xr_10 h14) mv_X9_at q_610 [.ref (xa X 10), .int v2] rfl rfl rfl (by decide) (Nat.le_of_ble_eq_true rfl) dX9_waresThatRhymesAllow_82 ?_
        refine j_aload_n (pc := 85) rfl 0 rfl E dX9_waresThatRhymesAllow_85 ?_
        refine j_get (pc := 86) E xuX9 rfl s_0 (k := 2) (by decide) q_391 rfl (xflds_ref rfl) dX9_waresThatRhymesAllow_86 ?_
        refine j_iload_n (pc := 89) rfl 2 rfl E dX9_waresThatRhymesAllow_89 ?_
        refine JF.xb (fun y15 m16 h17 => ?_)
        refine j_callVi (pc := 90) (st := [.int y12, .int 0, .int x10, .int v1]) E (kX0_usesOf h17) mv_X0_usesOf rfl s_29 q_637 [.int v2] rfl rfl rfl (by decide) (Nat.le_of_ble_eq_true rfl) dX9_waresThatRhymesAllow_90 ?_
        refine j_isub (pc := 93) E dX9_waresThatRhymesAllow_93 ?_
        refine j_max (pc := 94) E q_971 q_937 q_74 q_938 (by decide) (Nat.le_of_ble_eq_true rfl) dX9_waresThatRhymesAllow_94 ?_
        refine j_min (pc := 97) E q_972 q_766 q_74 q_767 (by decide) (Nat.le_of_ble_eq_true rfl) dX9_waresThatRhymesAllow_97 ?_
        refine j_iadd (pc := 100) E dX9_waresThatRhymesAllow_100 ?_
        refine JF.xletI (fun x18 => ?_)
        refine j_istore_n (pc := 101) (lv1 := [(1, .int x18), (0, .ref (xa X 0)), (2, .int v2), (3, .int x10)]) E dX9_waresThatRhymesAllow_101 rfl (by decide) rfl ?_
        refine j_iinc (pc := 102) (v := (v2 + 1)) (lv1 := [(2, .int (v2 + 1)), (1, .int x18), (0, .ref (xa X 0)), (3, .int x10)]) E dX9_waresThatRhymesAllow_102 2 rfl rfl (by decide) rfl ?_
        refine j_goto (pc := 105) (tgt := 4) E dX9_waresThatRhymesAllow_105 (by decide) ?_
        refine JF.sub [2, 1, 0] rfl ?_
        exact ih x18 (v2 + 1) m16
def fX9_waresThatRhymesAllow (N : Nat) (σ : XS) : Option XO := fX9_waresThatRhymesAllow_L4 N (fun x19 m20 => some (x19, m20)) N 0 0 σ
set_option maxRecDepth 100000 in
set_option maxHeartbeats 4000000 in
theorem kX9_waresThatRhymesAllow {N : Nat} {σ : XS} {o : XO} (h : fX9_waresThatRhymesAllow N σ = some o) : CtI yX9_waresThatRhymesAllow cX9_waresThatRhymesAllow 5 (some .int) 2 42 (fun Am ad => [.ref (Am 0)]) σ o := by
  refine ct_int (by decide) (fun _ _ => Nat.le_of_ble_eq_true rfl) (fun X E R => ?_)
  rw [← h]
  show JF X o 5 0 [(0, .ref (xa X 0))] [] σ (fX9_waresThatRhymesAllow_L4 N (fun x19 m20 => some (x19, m20)) N 0 0 σ)
  refine j_iconst (pc := 0) (v := 0) (by decide) E dX9_waresThatRhymesAllow_0 ?_
  refine j_istore_n (pc := 1) (lv1 := [(1, .int 0), (0, .ref (xa X 0))]) E dX9_waresThatRhymesAllow_1 rfl (by decide) rfl ?_
  refine j_iconst (pc := 2) (v := 0) (by decide) E dX9_waresThatRhymesAllow_2 ?_
  refine j_istore_n (pc := 3) (lv1 := [(2, .int 0), (1, .int 0), (0, .ref (xa X 0))]) E dX9_waresThatRhymesAllow_3 rfl (by decide) rfl ?_
  refine JF.sub [2, 1, 0] rfl ?_
  refine lX9_waresThatRhymesAllow_L4 N _ E R (fun x19 m20 => ?_) N 0 0 σ
  · refine j_iload_n (pc := 108) rfl 0 rfl E dX9_waresThatRhymesAllow_108 ?_
    exact j_iret (pc := 109) E R dX9_waresThatRhymesAllow_109
def fX9_left (N : Nat) (σ : XS) (p1 : Int32) : Option XO := if p1 = 0 then xB (fX9_waresThatRhymesAllow N σ) (fun y4 m5 => some (y4, m5)) else if p1 = 1 then xB (fX9_portsWornOut N σ) (fun y1 m2 => some (y1, m2)) else some ((-3), σ)
set_option maxRecDepth 100000 in
set_option maxHeartbeats 4000000 in
theorem kX9_left {N : Nat} {σ : XS} {p1 : Int32} {o : XO} (h : fX9_left N σ p1 = some o) : CtI yX9_left cX9_left 2 (some .int) 3 66 (fun Am ad => [.ref (Am 0), .int p1]) σ o := by
  refine ct_int (by decide) (fun _ _ => Nat.le_of_ble_eq_true rfl) (fun X E R => ?_)
  rw [← h]
  show JF X o 2 0 [(0, .ref (xa X 0)), (1, .int p1)] [] σ (if p1 = 0 then xB (fX9_waresThatRhymesAllow N σ) (fun y4 m5 => some (y4, m5)) else if p1 = 1 then xB (fX9_portsWornOut N σ) (fun y1 m2 => some (y1, m2)) else some ((-3), σ))
  refine j_iload_n (pc := 0) rfl 1 rfl E dX9_left_0 ?_
  refine j_if_ne (pc := 1) (tgt := 9) E dX9_left_1 (by decide) ?_ ?_
  · refine j_aload_n (pc := 4) rfl 0 rfl E dX9_left_4 ?_
    refine JF.xb (fun y4 m5 h6 => ?_)
    refine j_callVi (pc := 5) (st := []) E (kX9_waresThatRhymesAllow h6) mv_X9_waresThatRhymesAllow rfl s_0 q_966 [] rfl rfl rfl (by decide) (Nat.le_of_ble_eq_true rfl) dX9_left_5 ?_
    exact j_iret (pc := 8) E R dX9_left_8
  · refine j_iload_n (pc := 9) rfl 1 rfl E dX9_left_9 ?_
    refine j_iconst (pc := 10) (v := 1) (by decide) E dX9_left_10 ?_
    refine j_icmp_ne (pc := 11) (tgt := 19) E dX9_left_11 (by decide) ?_ ?_
    · refine j_aload_n (pc := 14) rfl 0 rfl E dX9_left_14 ?_
      refine JF.xb (fun y1 m2 h3 => ?_)
      refine j_callVi (pc := 15) (st := []) E (kX9_portsWornOut h3) mv_X9_portsWornOut rfl s_0 q_973 [] rfl rfl rfl (by decide) (Nat.le_of_ble_eq_true rfl) dX9_left_15 ?_
      exact j_iret (pc := 18) E R dX9_left_18
    · refine j_bipush (pc := 19) (v := (-3)) (by decide) E dX9_left_19 ?_
      exact j_iret (pc := 21) E R dX9_left_21
def fX9_commonDivisor_L2 (N : Nat) (k26 : Int32 → XS → Option XO) : Nat → Int32 → Int32 → Int32 → XS → Option XO
  | 0, _, _, _, _ => none
  | n + 1, v0, v1, v2, σ => if 100 ≤ v2 then k26 v0 σ else if v1 = 0 then k26 v0 σ else gd (!decide (v1 = 0)) (xLetI (v0 - v0 / v1 * v1) (fun x1 => fX9_commonDivisor_L2 N k26 n v1 x1 (v2 + 1) σ))
set_option maxRecDepth 100000 in
set_option maxHeartbeats 4000000 in
theorem lX9_commonDivisor_L2 (N : Nat) (k26 : Int32 → XS → Option XO) {X : XC} {o : XO} (E : XE X cX9_commonDivisor RX9 4 0 0) (R : XI X o cX9_commonDivisor) (K26 : ∀ (v0 : Int32) (σ : XS), JF X o 4 26 [(0, .int v0)] [] σ (k26 v0 σ)) : ∀ (n : Nat) (v0 : Int32) (v1 : Int32) (v2 : Int32) (σ : XS), JF X o 4 2 [(0, .int v0), (1, .int v1), (2, .int v2)] [] σ (fX9_commonDivisor_L2 N k26 n v0 v1 v2 σ) := by
  intro n
  induction n with
  | zero => intro v0 v1 v2 σ; exact JF.none
  | succ n ih =>
    intro v0 v1 v2 σ
    show JF X o 4 2 [(0, .int v0), (1, .int v1), (2, .int v2)] [] σ (if 100 ≤ v2 then k26 v0 σ else if v1 = 0 then k26 v0 σ else gd (!decide (v1 = 0)) (xLetI (v0 - v0 / v1 * v1) (fun x1 => fX9_commonDivisor_L2 N k26 n v1 x1 (v2 + 1) σ)))
    refine j_iload_n (pc := 2) rfl 2 rfl E dX9_commonDivisor_2 ?_
    refine j_bipush (pc := 3) (v := 100) (by decide) E dX9_commonDivisor_3 ?_
    refine j_icmp_ge (pc := 5) (tgt := 26) E dX9_commonDivisor_5 (by decide) ?_ ?_
    · refine JF.sub [0] rfl ?_
      exact K26 v0 σ
    · refine j_iload_n (pc := 8) rfl 1 rfl E dX9_commonDivisor_8 ?_
      refine j_if_eq (pc := 9) (tgt := 26) E dX9_commonDivisor_9 (by decide) ?_ ?_
      · refine JF.sub [0] rfl ?_
        exact K26 v0 σ
      · refine j_iload_n (pc := 12) rfl 0 rfl E dX9_commonDivisor_12 ?_
        refine j_iload_n (pc := 13) rfl 1 rfl E dX9_commonDivisor_13 ?_
        refine j_irem (pc := 14) E dX9_commonDivisor_14 ?_
        refine JF.xletI (fun x1 => ?_)
        refine j_istore_n (pc := 15) (lv1 := [(3, .int x1), (0, .int v0), (1, .int v1), (2, .int v2)]) E dX9_commonDivisor_15 rfl (by decide) rfl ?_
        refine j_iload_n (pc := 16) rfl 2 rfl E dX9_commonDivisor_16 ?_
        refine j_istore_n (pc := 17) (lv1 := [(0, .int v1), (3, .int x1), (1, .int v1), (2, .int v2)]) E dX9_commonDivisor_17 rfl (by decide) rfl ?_
        refine j_iload_n (pc := 18) rfl 1 rfl E dX9_commonDivisor_18 ?_
        refine j_istore_n (pc := 19) (lv1 := [(1, .int x1), (0, .int v1), (3, .int x1), (2, .int v2)]) E dX9_commonDivisor_19 rfl (by decide) rfl ?_
        refine j_iinc (pc := 20) (v := (v2 + 1)) (lv1 := [(2, .int (v2 + 1)), (1, .int x1), (0, .int v1), (3, .int x1)]) E dX9_commonDivisor_20 3 rfl rfl (by decide) rfl ?_
        refine j_goto (pc := 23) (tgt := 2) E dX9_commonDivisor_23 (by decide) ?_
        refine JF.sub [2, 1, 0] rfl ?_
        exact ih v1 x1 (v2 + 1) σ
def fX9_commonDivisor (N : Nat) (σ : XS) (p1 : Int32) (p2 : Int32) : Option XO := fX9_commonDivisor_L2 N (fun x2 m3 => some (x2, m3)) N p1 p2 0 σ
set_option maxRecDepth 100000 in
set_option maxHeartbeats 4000000 in
theorem kX9_commonDivisor {N : Nat} {σ : XS} {p1 : Int32} {p2 : Int32} {o : XO} (h : fX9_commonDivisor N σ p1 p2 = some o) : CtI yX9_commonDivisor cX9_commonDivisor 4 (some .int) 0 0 (fun Am ad => [.int p1, .int p2]) σ o := by
  refine ct_int (by decide) (fun _ _ => Nat.le_of_ble_eq_true rfl) (fun X E R => ?_)
  rw [← h]
  show JF X o 4 0 [(0, .int p1), (1, .int p2)] [] σ (fX9_commonDivisor_L2 N (fun x2 m3 => some (x2, m3)) N p1 p2 0 σ)
  refine j_iconst (pc := 0) (v := 0) (by decide) E dX9_commonDivisor_0 ?_
  refine j_istore_n (pc := 1) (lv1 := [(2, .int 0), (0, .int p1), (1, .int p2)]) E dX9_commonDivisor_1 rfl (by decide) rfl ?_
  refine JF.sub [1, 2, 0] rfl ?_
  refine lX9_commonDivisor_L2 N _ E R (fun x2 m3 => ?_) N p1 p2 0 σ
  · refine j_iload_n (pc := 26) rfl 0 rfl E dX9_commonDivisor_26 ?_
    exact j_iret (pc := 27) E R dX9_commonDivisor_27
def fX9_odds (N : Nat) (σ : XS) (p1 : Int32) (p2 : Int32) (p3 : Int32) (p4 : Int32) : Option XO := xB (fX9_areKnown N σ p1 p2) (fun y1 m2 => if y1 = 0 then some ((-2), m2) else if p3 < 1 then some ((-3), m2) else if 4 < p3 then some ((-3), m2) else if p4 < 0 then some ((-3), m2) else if p4 ≤ 1 then if (m2 1 9) = 0 then some ((-4), m2) else xB (fX1_ask N m2 p1 p2) (fun _ m5 => xB (fX2_linesOf N m5 p3) (fun y7 m8 => xB (fX8_linesOf N m8 p3) (fun y10 m11 => xB (fX9_commonDivisor N m11 y7 y10) (fun y13 m14 => if y13 = 0 then some ((-1), m14) else if p4 = 0 then gd (!decide (y13 = 0)) (some ((y7 / y13), m14)) else gd (!decide (y13 = 0)) (some ((y10 / y13), m14)))))) else some ((-3), m2))
set_option maxRecDepth 100000 in
set_option maxHeartbeats 4000000 in
theorem kX9_odds {N : Nat} {σ : XS} {p1 : Int32} {p2 : Int32} {p3 : Int32} {p4 : Int32} {o : XO} (h : fX9_odds N σ p1 p2 p3 p4 = some o) : CtI yX9_odds cX9_odds 8 (some .int) 6 139 (fun Am ad => [.ref (Am 0), .int p1, .int p2, .int p3, .int p4]) σ o := by
  refine ct_int (by decide) (fun _ _ => Nat.le_of_ble_eq_true rfl) (fun X E R => ?_)
  rw [← h]
  show JF X o 8 0 [(0, .ref (xa X 0)), (1, .int p1), (2, .int p2), (3, .int p3), (4, .int p4)] [] σ (xB (fX9_areKnown N σ p1 p2) (fun y1 m2 => if y1 = 0 then some ((-2), m2) else if p3 < 1 then some ((-3), m2) else if 4 < p3 then some ((-3), m2) else if p4 < 0 then some ((-3), m2) else if p4 ≤ 1 then if (m2 1 9) = 0 then some ((-4), m2) else xB (fX1_ask N m2 p1 p2) (fun _ m5 => xB (fX2_linesOf N m5 p3) (fun y7 m8 => xB (fX8_linesOf N m8 p3) (fun y10 m11 => xB (fX9_commonDivisor N m11 y7 y10) (fun y13 m14 => if y13 = 0 then some ((-1), m14) else if p4 = 0 then gd (!decide (y13 = 0)) (some ((y7 / y13), m14)) else gd (!decide (y13 = 0)) (some ((y10 / y13), m14)))))) else some ((-3), m2)))
  refine j_aload_n (pc := 0) rfl 0 rfl E dX9_odds_0 ?_
  refine j_iload_n (pc := 1) rfl 1 rfl E dX9_odds_1 ?_
  refine j_iload_n (pc := 2) rfl 2 rfl E dX9_odds_2 ?_
  refine JF.xb (fun y1 m2 h3 => ?_)
  refine j_callVi (pc := 3) (st := []) E (kX9_areKnown h3) mv_X9_areKnown rfl s_0 q_723 [.int p1, .int p2] rfl rfl rfl (by decide) (Nat.le_of_ble_eq_true rfl) dX9_odds_3 ?_
  refine j_if_ne (pc := 6) (tgt := 12) E dX9_odds_6 (by decide) ?_ ?_
  · refine j_bipush (pc := 9) (v := (-2)) (by decide) E dX9_odds_9 ?_
    exact j_iret (pc := 11) E R dX9_odds_11
  · refine j_iload_n (pc := 12) rfl 3 rfl E dX9_odds_12 ?_
    refine j_iconst (pc := 13) (v := 1) (by decide) E dX9_odds_13 ?_
    refine j_icmp_lt (pc := 14) (tgt := 33) E dX9_odds_14 (by decide) ?_ ?_
    · refine j_bipush (pc := 33) (v := (-3)) (by decide) E dX9_odds_33 ?_
      exact j_iret (pc := 35) E R dX9_odds_35
    · refine j_iload_n (pc := 17) rfl 3 rfl E dX9_odds_17 ?_
      refine j_iconst (pc := 18) (v := 4) (by decide) E dX9_odds_18 ?_
      refine j_icmp_gt (pc := 19) (tgt := 33) E dX9_odds_19 (by decide) ?_ ?_
      · refine j_bipush (pc := 33) (v := (-3)) (by decide) E dX9_odds_33 ?_
        exact j_iret (pc := 35) E R dX9_odds_35
      · refine j_iload (pc := 22) 4 rfl E dX9_odds_22 ?_
        refine j_if_lt (pc := 24) (tgt := 33) E dX9_odds_24 (by decide) ?_ ?_
        · refine j_bipush (pc := 33) (v := (-3)) (by decide) E dX9_odds_33 ?_
          exact j_iret (pc := 35) E R dX9_odds_35
        · refine j_iload (pc := 27) 4 rfl E dX9_odds_27 ?_
          refine j_iconst (pc := 29) (v := 1) (by decide) E dX9_odds_29 ?_
          refine j_icmp_le (pc := 30) (tgt := 36) E dX9_odds_30 (by decide) ?_ ?_
          · refine j_aload_n (pc := 36) rfl 0 rfl E dX9_odds_36 ?_
            refine j_get (pc := 37) E xuX9 rfl s_0 (k := 0) (by decide) q_389 rfl (xflds_ref rfl) dX9_odds_37 ?_
            refine j_get (pc := 40) E xuX8 rfl s_1 (k := 9) (by decide) q_122 rfl (xflds_int rfl) dX9_odds_40 ?_
            refine j_if_ne (pc := 43) (tgt := 49) E dX9_odds_43 (by decide) ?_ ?_
            · refine j_bipush (pc := 46) (v := (-4)) (by decide) E dX9_odds_46 ?_
              exact j_iret (pc := 48) E R dX9_odds_48
            · refine j_aload_n (pc := 49) rfl 0 rfl E dX9_odds_49 ?_
              refine j_get (pc := 50) E xuX9 rfl s_0 (k := 4) (by decide) q_393 rfl (xflds_ref rfl) dX9_odds_50 ?_
              refine j_iload_n (pc := 53) rfl 1 rfl E dX9_odds_53 ?_
              refine j_iload_n (pc := 54) rfl 2 rfl E dX9_odds_54 ?_
              refine JF.xb (fun y4 m5 h6 => ?_)
              refine j_callVv (pc := 55) (st := []) E (kX1_ask h6) mv_X1_ask rfl s_46 q_831 [.int p1, .int p2] rfl rfl rfl (by decide) (Nat.le_of_ble_eq_true rfl) dX9_odds_55 ?_
              refine j_aload_n (pc := 58) rfl 0 rfl E dX9_odds_58 ?_
              refine j_get (pc := 59) E xuX9 rfl s_0 (k := 5) (by decide) q_394 rfl (xflds_ref rfl) dX9_odds_59 ?_
              refine j_iload_n (pc := 62) rfl 3 rfl E dX9_odds_62 ?_
              refine JF.xb (fun y7 m8 h9 => ?_)
              refine j_callVi (pc := 63) (st := []) E (kX2_linesOf h9) mv_X2_linesOf rfl s_47 q_896 [.int p3] rfl rfl rfl (by decide) (Nat.le_of_ble_eq_true rfl) dX9_odds_63 ?_
              refine j_istore (pc := 66) (lv1 := [(5, .int y7), (0, .ref (xa X 0)), (1, .int p1), (2, .int p2), (3, .int p3), (4, .int p4)]) E dX9_odds_66 (by decide) rfl ?_
              refine j_aload_n (pc := 68) rfl 1 rfl E dX9_odds_68 ?_
              refine j_get (pc := 69) E xuX9 rfl s_0 (k := 0) (by decide) q_389 rfl (xflds_ref rfl) dX9_odds_69 ?_
              refine j_iload_n (pc := 72) rfl 4 rfl E dX9_odds_72 ?_
              refine JF.xb (fun y10 m11 h12 => ?_)
              refine j_callVi (pc := 73) (st := []) E (kX8_linesOf h12) mv_X8_linesOf rfl s_1 q_981 [.int p3] rfl rfl rfl (by decide) (Nat.le_of_ble_eq_true rfl) dX9_odds_73 ?_
              refine j_istore (pc := 76) (lv1 := [(6, .int y10), (5, .int y7), (0, .ref (xa X 0)), (1, .int p1), (2, .int p2), (3, .int p3), (4, .int p4)]) E dX9_odds_76 (by decide) rfl ?_
              refine j_iload (pc := 78) 1 rfl E dX9_odds_78 ?_
              refine j_iload (pc := 80) 0 rfl E dX9_odds_80 ?_
              refine JF.xb (fun y13 m14 h15 => ?_)
              refine j_callSi (pc := 82) (st := []) E (kX9_commonDivisor h15) mv_X9_commonDivisor q_985 [.int y7, .int y10] rfl rfl rfl (by decide) (Nat.le_of_ble_eq_true rfl) dX9_odds_82 ?_
              refine j_istore (pc := 85) (lv1 := [(7, .int y13), (6, .int y10), (5, .int y7), (0, .ref (xa X 0)), (1, .int p1), (2, .int p2), (3, .int p3), (4, .int p4)]) E dX9_odds_85 (by decide) rfl ?_
              refine j_iload (pc := 87) 0 rfl E dX9_odds_87 ?_
              refine j_if_ne (pc := 89) (tgt := 94) E dX9_odds_89 (by decide) ?_ ?_
              · refine j_iconst (pc := 92) (v := (-1)) (by decide) E dX9_odds_92 ?_
                exact j_iret (pc := 93) E R dX9_odds_93
              · refine j_iload (pc := 94) 7 rfl E dX9_odds_94 ?_
                refine j_if_ne (pc := 96) (tgt := 107) E dX9_odds_96 (by decide) ?_ ?_
                · refine j_iload (pc := 99) 2 rfl E dX9_odds_99 ?_
                  refine j_iload (pc := 101) 0 rfl E dX9_odds_101 ?_
                  refine j_idiv (pc := 103) E dX9_odds_103 ?_
                  refine j_goto (pc := 104) (tgt := 112) E dX9_odds_104 (by decide) ?_
                  exact j_iret (pc := 112) E R dX9_odds_112
                · refine j_iload (pc := 107) 1 rfl E dX9_odds_107 ?_
                  refine j_iload (pc := 109) 0 rfl E dX9_odds_109 ?_
                  refine j_idiv (pc := 111) E dX9_odds_111 ?_
                  exact j_iret (pc := 112) E R dX9_odds_112
          · refine j_bipush (pc := 33) (v := (-3)) (by decide) E dX9_odds_33 ?_
            exact j_iret (pc := 35) E R dX9_odds_35
