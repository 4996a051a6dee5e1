theorem x01f {r : Int32} (hg : (decide (r = 0) || decide (r = 1)) = true) : fits .boolean (.int r) = true := by
  rw [Bool.or_eq_true, decide_eq_true_eq, decide_eq_true_eq] at hg
  rcases hg with h | h <;> rw [h] <;> rfl
def fJ7_fill_53178_L5 (N : Nat) (v1 : Int32) (v3 : Int32) (r1 : Nat) (k20 : XS → Option XO) : Nat → Int32 → XS → Option XO
  | 0, _, _ => none
  | n + 1, v2, σ => if v3 ≤ v2 then k20 σ else xLet (xUp σ r1 v2.toNatClampNeg v1) (fun m1 => gd (xin v2 (xlen r1)) (fJ7_fill_53178_L5 N v1 v3 r1 k20 n (v2 + 1) m1))
set_option maxRecDepth 100000 in
set_option maxHeartbeats 4000000 in
theorem lJ7_fill_53178_L5 (N : Nat) (v1 : Int32) (v3 : Int32) (r1 : Nat) (k20 : XS → Option XO) {X : XC} {o : XO} (E : XE X cJ7_fill_53178 RJ7 4 0 0) (R : XV X o cJ7_fill_53178) (hr1 : xRow r1) (K20 : ∀ (σ : XS), JF X o 4 20 [] [] σ (k20 σ)) : ∀ (n : Nat) (v2 : Int32) (σ : XS), JF X o 4 5 [(0, .ref (xa X r1)), (1, .int v1), (2, .int v2), (3, .int v3)] [] σ (fJ7_fill_53178_L5 N v1 v3 r1 k20 n v2 σ) := by
  intro n
  induction n with
  | zero => intro v2 σ; exact JF.none
  | succ n ih =>
    intro v2 σ
    show JF X o 4 5 [(0, .ref (xa X r1)), (1, .int v1), (2, .int v2), (3, .int v3)] [] σ (if v3 ≤ v2 then k20 σ else xLet (xUp σ r1 v2.toNatClampNeg v1) (fun m1 => gd (xin v2 (xlen r1)) (fJ7_fill_53178_L5 N v1 v3 r1 k20 n (v2 + 1) m1)))
    refine j_iload_n (pc := 5) rfl 2 rfl E dJ7_fill_53178_5 ?_
    refine j_iload_n (pc := 6) rfl 3 rfl E dJ7_fill_53178_6 ?_
    refine j_icmp_ge (pc := 7) (tgt := 20) E dJ7_fill_53178_7 (by decide) ?_ ?_
    · refine JF.sub [] rfl ?_
      exact K20  σ
    · refine j_aload_n (pc := 10) rfl 0 rfl E dJ7_fill_53178_10 ?_
      refine j_iload_n (pc := 11) rfl 2 rfl E dJ7_fill_53178_11 ?_
      refine j_iload_n (pc := 12) rfl 1 rfl E dJ7_fill_53178_12 ?_
      refine JF.xlet (fun m1 e2 => ?_)
      refine j_iast (pc := 13) E hr1 dJ7_fill_53178_13 e2 ?_
      refine j_iinc (pc := 14) (v := (v2 + 1)) (lv1 := [(2, .int (v2 + 1)), (0, .ref (xa X r1)), (1, .int v1), (3, .int v3)]) E dJ7_fill_53178_14 2 rfl rfl (by decide) rfl ?_
      refine j_goto (pc := 17) (tgt := 5) E dJ7_fill_53178_17 (by decide) ?_
      refine JF.sub [1, 2, 0, 3] rfl ?_
      exact ih (v2 + 1) m1
def fJ7_fill_53178 (N : Nat) (σ : XS) (r1 : Nat) (p2 : Int32) : Option XO := fJ7_fill_53178_L5 N p2 (nI (xlen r1)) r1 (fun m4 => some (0, m4)) N 0 σ
set_option maxRecDepth 100000 in
set_option maxHeartbeats 4000000 in
theorem kJ7_fill_53178 {N : Nat} {σ : XS} {r1 : Nat} {p2 : Int32} {o : XO} (hr1 : xRow r1) (h : fJ7_fill_53178 N σ r1 p2 = some o) : CtV yJ7_fill_53178 cJ7_fill_53178 4 none 0 0 (fun Am ad => [.ref (Am r1), .int p2]) σ o := by
  refine ct_void (by decide) (fun _ _ => Nat.le_of_ble_eq_true rfl) (fun X E R => ?_)
  rw [← h]
  show JF X o 4 0 [(0, .ref (xa X r1)), (1, .int p2)] [] σ (fJ7_fill_53178_L5 N p2 (nI (xlen r1)) r1 (fun m4 => some (0, m4)) N 0 σ)
  refine j_iconst (pc := 0) (v := 0) (by decide) E dJ7_fill_53178_0 ?_
  refine j_istore_n (pc := 1) (lv1 := [(2, .int 0), (0, .ref (xa X r1)), (1, .int p2)]) E dJ7_fill_53178_1 rfl (by decide) rfl ?_
  refine j_aload_n (pc := 2) rfl 1 rfl E dJ7_fill_53178_2 ?_
  refine j_alen (pc := 3) (v := (nI (xlen r1))) E hr1 rfl rfl dJ7_fill_53178_3 ?_
  refine j_istore_n (pc := 4) (lv1 := [(3, .int (nI (xlen r1))), (2, .int 0), (0, .ref (xa X r1)), (1, .int p2)]) E dJ7_fill_53178_4 rfl (by decide) rfl ?_
  refine JF.sub [2, 3, 1, 0] rfl ?_
  refine lJ7_fill_53178_L5 N p2 (nI (xlen r1)) r1 _ E R hr1 (fun m4 => ?_) N 0 σ
  · exact j_vret (pc := 20) E R dJ7_fill_53178_20
def fX0_begin_L10 (N : Nat) (k28 : XS → Option XO) : Nat → Int32 → XS → Option XO
  | 0, _, _ => none
  | n + 1, v1, σ => if 2 ≤ v1 then k28 σ else xLet (xUp σ 43 v1.toNatClampNeg (vp_nar .boolean 0)) (fun m4 => gd (xin v1 2) (fX0_begin_L10 N k28 n (v1 + 1) m4))
set_option maxRecDepth 100000 in
set_option maxHeartbeats 4000000 in
theorem lX0_begin_L10 (N : Nat) (k28 : XS → Option XO) {X : XC} {o : XO} (E : XE X cX0_begin RX0 2 1 23) (R : XV X o cX0_begin) (K28 : ∀ (σ : XS), JF X o 2 28 [(0, .ref (xa X 29))] [] σ (k28 σ)) : ∀ (n : Nat) (v1 : Int32) (σ : XS), JF X o 2 10 [(0, .ref (xa X 29)), (1, .int v1)] [] σ (fX0_begin_L10 N k28 n v1 σ) := by
  intro n
  induction n with
  | zero => intro v1 σ; exact JF.none
  | succ n ih =>
    intro v1 σ
    show JF X o 2 10 [(0, .ref (xa X 29)), (1, .int v1)] [] σ (if 2 ≤ v1 then k28 σ else xLet (xUp σ 43 v1.toNatClampNeg (vp_nar .boolean 0)) (fun m4 => gd (xin v1 2) (fX0_begin_L10 N k28 n (v1 + 1) m4)))
    refine j_iload_n (pc := 10) rfl 1 rfl E dX0_begin_10 ?_
    refine j_iconst (pc := 11) (v := 2) (by decide) E dX0_begin_11 ?_
    refine j_icmp_ge (pc := 12) (tgt := 28) E dX0_begin_12 (by decide) ?_ ?_
    · refine JF.sub [0] rfl ?_
      exact K28  σ
    · refine j_aload_n (pc := 15) rfl 0 rfl E dX0_begin_15 ?_
      refine j_get (pc := 16) E xuX0 rfl s_29 (k := 3) (by decide) q_215 rfl (xflds_ref rfl) dX0_begin_16 ?_
      refine j_iload_n (pc := 19) rfl 1 rfl E dX0_begin_19 ?_
      refine j_iconst (pc := 20) (v := 0) (by decide) E dX0_begin_20 ?_
      refine JF.xlet (fun m4 e5 => ?_)
      refine j_zast (pc := 21) E s_43 dX0_begin_21 e5 ?_
      refine j_iinc (pc := 22) (v := (v1 + 1)) (lv1 := [(1, .int (v1 + 1)), (0, .ref (xa X 29))]) E dX0_begin_22 1 rfl rfl (by decide) rfl ?_
      refine j_goto (pc := 25) (tgt := 10) E dX0_begin_25 (by decide) ?_
      refine JF.sub [1, 0] rfl ?_
      exact ih (v1 + 1) m4
def fX0_begin (N : Nat) (σ : XS) : Option XO := xB (fJ7_fill_53178 N σ 30 0) (fun _ m2 => fX0_begin_L10 N (fun m7 => xLet (xUp m7 29 5 0) (fun m8 => some (0, m8))) N 0 m2)
set_option maxRecDepth 100000 in
set_option maxHeartbeats 4000000 in
theorem kX0_begin {N : Nat} {σ : XS} {o : XO} (h : fX0_begin N σ = some o) : CtV yX0_begin cX0_begin 2 none 1 23 (fun Am ad => [.ref (Am 29)]) σ o := by
  refine ct_void (by decide) (fun _ _ => Nat.le_of_ble_eq_true rfl) (fun X E R => ?_)
  rw [← h]
  show JF X o 2 0 [(0, .ref (xa X 29))] [] σ (xB (fJ7_fill_53178 N σ 30 0) (fun _ m2 => fX0_begin_L10 N (fun m7 => xLet (xUp m7 29 5 0) (fun m8 => some (0, m8))) N 0 m2))
  refine j_aload_n (pc := 0) rfl 0 rfl E dX0_begin_0 ?_
  refine j_get (pc := 1) E xuX0 rfl s_29 (k := 0) (by decide) q_212 rfl (xflds_ref rfl) dX0_begin_1 ?_
  refine j_iconst (pc := 4) (v := 0) (by decide) E dX0_begin_4 ?_
  refine JF.xb (fun y1 m2 h3 => ?_)
  refine j_callSv (pc := 5) (st := []) E (kJ7_fill_53178 xr_30 h3) mv_J7_fill_53178 q_593 [.ref (xa X 30), .int 0] rfl rfl rfl (by decide) (Nat.le_of_ble_eq_true rfl) dX0_begin_5 ?_
  refine j_iconst (pc := 8) (v := 0) (by decide) E dX0_begin_8 ?_
  refine j_istore_n (pc := 9) (lv1 := [(1, .int 0), (0, .ref (xa X 29))]) E dX0_begin_9 rfl (by decide) rfl ?_
  refine JF.sub [1, 0] rfl ?_
  refine lX0_begin_L10 N _ E R (fun m7 => ?_) N 0 m2
  · refine j_aload_n (pc := 28) rfl 0 rfl E dX0_begin_28 ?_
    refine j_iconst (pc := 29) (v := 0) (by decide) E dX0_begin_29 ?_
    refine JF.xlet (fun m8 e9 => ?_)
    refine j_put (pc := 30) E xuX0 tyX0 tyX0_ok nmX0 rfl s_29 rfl (k := 5) (by decide) q_217 rfl rfl (ty := .int) (by decide +kernel) rfl rfl dX0_begin_30 e9 ?_
    exact j_vret (pc := 33) E R dX0_begin_33
def fX0_today (N : Nat) (σ : XS) : Option XO := gd (xin 0 14) (some ((σ 30 (0 : Int32).toNatClampNeg), σ))
set_option maxRecDepth 100000 in
set_option maxHeartbeats 4000000 in
theorem kX0_today {N : Nat} {σ : XS} {o : XO} (h : fX0_today N σ = some o) : CtI yX0_today cX0_today 1 (some .int) 0 0 (fun Am ad => [.ref (Am 29)]) σ o := by
  refine ct_int (by decide) (fun _ _ => Nat.le_of_ble_eq_true rfl) (fun X E R => ?_)
  rw [← h]
  show JF X o 1 0 [(0, .ref (xa X 29))] [] σ (gd (xin 0 14) (some ((σ 30 (0 : Int32).toNatClampNeg), σ)))
  refine j_aload_n (pc := 0) rfl 0 rfl E dX0_today_0 ?_
  refine j_get (pc := 1) E xuX0 rfl s_29 (k := 0) (by decide) q_212 rfl (xflds_ref rfl) dX0_today_1 ?_
  refine j_iconst (pc := 4) (v := 0) (by decide) E dX0_today_4 ?_
  refine j_iald (pc := 5) E s_30 dX0_today_5 ?_
  exact j_iret (pc := 6) E R dX0_today_6
def fX0_paid (N : Nat) (σ : XS) : Option XO := gd (xin 1 14) (some ((σ 30 (1 : Int32).toNatClampNeg), σ))
set_option maxRecDepth 100000 in
set_option maxHeartbeats 4000000 in
theorem kX0_paid {N : Nat} {σ : XS} {o : XO} (h : fX0_paid N σ = some o) : CtI yX0_paid cX0_paid 1 (some .int) 0 0 (fun Am ad => [.ref (Am 29)]) σ o := by
  refine ct_int (by decide) (fun _ _ => Nat.le_of_ble_eq_true rfl) (fun X E R => ?_)
  rw [← h]
  show JF X o 1 0 [(0, .ref (xa X 29))] [] σ (gd (xin 1 14) (some ((σ 30 (1 : Int32).toNatClampNeg), σ)))
  refine j_aload_n (pc := 0) rfl 0 rfl E dX0_paid_0 ?_
  refine j_get (pc := 1) E xuX0 rfl s_29 (k := 0) (by decide) q_212 rfl (xflds_ref rfl) dX0_paid_1 ?_
  refine j_iconst (pc := 4) (v := 1) (by decide) E dX0_paid_4 ?_
  refine j_iald (pc := 5) E s_30 dX0_paid_5 ?_
  exact j_iret (pc := 6) E R dX0_paid_6
def fX0_areOver (N : Nat) (σ : XS) : Option XO := gd (xin 0 14) (if (σ 30 (0 : Int32).toNatClampNeg) < 99 then some (0, σ) else some (1, σ))
set_option maxRecDepth 100000 in
set_option maxHeartbeats 4000000 in
theorem kX0_areOver {N : Nat} {σ : XS} {o : XO} (h : fX0_areOver N σ = some o) : CtI yX0_areOver cX0_areOver 1 (some .boolean) 0 0 (fun Am ad => [.ref (Am 29)]) σ o := by
  refine ct_z (by decide) (fun _ _ => Nat.le_of_ble_eq_true rfl) (fun X E R => ?_)
  rw [← h]
  show JF X o 1 0 [(0, .ref (xa X 29))] [] σ (gd (xin 0 14) (if (σ 30 (0 : Int32).toNatClampNeg) < 99 then some (0, σ) else some (1, σ)))
  refine j_aload_n (pc := 0) rfl 0 rfl E dX0_areOver_0 ?_
  refine j_get (pc := 1) E xuX0 rfl s_29 (k := 0) (by decide) q_212 rfl (xflds_ref rfl) dX0_areOver_1 ?_
  refine j_iconst (pc := 4) (v := 0) (by decide) E dX0_areOver_4 ?_
  refine j_iald (pc := 5) E s_30 dX0_areOver_5 ?_
  refine j_bipush (pc := 6) (v := 99) (by decide) E dX0_areOver_6 ?_
  refine j_icmp_lt (pc := 8) (tgt := 15) E dX0_areOver_8 (by decide) ?_ ?_
  · refine j_iconst (pc := 15) (v := 0) (by decide) E dX0_areOver_15 ?_
    exact j_zret (pc := 16) E R rfl dX0_areOver_16
  · refine j_iconst (pc := 11) (v := 1) (by decide) E dX0_areOver_11 ?_
    refine j_goto (pc := 12) (tgt := 16) E dX0_areOver_12 (by decide) ?_
    exact j_zret (pc := 16) E R rfl dX0_areOver_16
def fX0_fateOf (N : Nat) (σ : XS) (p1 : Int32) : Option XO := if p1 < 0 then some (0, σ) else if 6 ≤ p1 then some (0, σ) else gd (xin (2 + p1) 14) (some ((σ 30 (2 + p1).toNatClampNeg), σ))
set_option maxRecDepth 100000 in
set_option maxHeartbeats 4000000 in
theorem kX0_fateOf {N : Nat} {σ : XS} {p1 : Int32} {o : XO} (h : fX0_fateOf N σ p1 = some o) : CtI yX0_fateOf cX0_fateOf 2 (some .int) 0 0 (fun Am ad => [.ref (Am 29), .int p1]) σ o := by
  refine ct_int (by decide) (fun _ _ => Nat.le_of_ble_eq_true rfl) (fun X E R => ?_)
  rw [← h]
  show JF X o 2 0 [(0, .ref (xa X 29)), (1, .int p1)] [] σ (if p1 < 0 then some (0, σ) else if 6 ≤ p1 then some (0, σ) else gd (xin (2 + p1) 14) (some ((σ 30 (2 + p1).toNatClampNeg), σ)))
  refine j_iload_n (pc := 0) rfl 1 rfl E dX0_fateOf_0 ?_
  refine j_if_lt (pc := 1) (tgt := 21) E dX0_fateOf_1 (by decide) ?_ ?_
  · refine j_iconst (pc := 21) (v := 0) (by decide) E dX0_fateOf_21 ?_
    exact j_iret (pc := 22) E R dX0_fateOf_22
  · refine j_iload_n (pc := 4) rfl 1 rfl E dX0_fateOf_4 ?_
    refine j_bipush (pc := 5) (v := 6) (by decide) E dX0_fateOf_5 ?_
    refine j_icmp_ge (pc := 7) (tgt := 21) E dX0_fateOf_7 (by decide) ?_ ?_
    · refine j_iconst (pc := 21) (v := 0) (by decide) E dX0_fateOf_21 ?_
      exact j_iret (pc := 22) E R dX0_fateOf_22
    · refine j_aload_n (pc := 10) rfl 0 rfl E dX0_fateOf_10 ?_
      refine j_get (pc := 11) E xuX0 rfl s_29 (k := 0) (by decide) q_212 rfl (xflds_ref rfl) dX0_fateOf_11 ?_
      refine j_iconst (pc := 14) (v := 2) (by decide) E dX0_fateOf_14 ?_
      refine j_iload_n (pc := 15) rfl 1 rfl E dX0_fateOf_15 ?_
      refine j_iadd (pc := 16) E dX0_fateOf_16 ?_
      refine j_iald (pc := 17) E s_30 dX0_fateOf_17 ?_
      refine j_goto (pc := 18) (tgt := 22) E dX0_fateOf_18 (by decide) ?_
      exact j_iret (pc := 22) E R dX0_fateOf_22
def fX0_usesOf (N : Nat) (σ : XS) (p1 : Int32) : Option XO := if p1 < 0 then some (0, σ) else if 6 ≤ p1 then some (0, σ) else gd (xin (8 + p1) 14) (some ((σ 30 (8 + p1).toNatClampNeg), σ))
set_option maxRecDepth 100000 in
set_option maxHeartbeats 4000000 in
theorem kX0_usesOf {N : Nat} {σ : XS} {p1 : Int32} {o : XO} (h : fX0_usesOf N σ p1 = some o) : CtI yX0_usesOf cX0_usesOf 2 (some .int) 0 0 (fun Am ad => [.ref (Am 29), .int p1]) σ o := by
  refine ct_int (by decide) (fun _ _ => Nat.le_of_ble_eq_true rfl) (fun X E R => ?_)
  rw [← h]
  show JF X o 2 0 [(0, .ref (xa X 29)), (1, .int p1)] [] σ (if p1 < 0 then some (0, σ) else if 6 ≤ p1 then some (0, σ) else gd (xin (8 + p1) 14) (some ((σ 30 (8 + p1).toNatClampNeg), σ)))
  refine j_iload_n (pc := 0) rfl 1 rfl E dX0_usesOf_0 ?_
  refine j_if_lt (pc := 1) (tgt := 22) E dX0_usesOf_1 (by decide) ?_ ?_
  · refine j_iconst (pc := 22) (v := 0) (by decide) E dX0_usesOf_22 ?_
    exact j_iret (pc := 23) E R dX0_usesOf_23
  · refine j_iload_n (pc := 4) rfl 1 rfl E dX0_usesOf_4 ?_
    refine j_bipush (pc := 5) (v := 6) (by decide) E dX0_usesOf_5 ?_
    refine j_icmp_ge (pc := 7) (tgt := 22) E dX0_usesOf_7 (by decide) ?_ ?_
    · refine j_iconst (pc := 22) (v := 0) (by decide) E dX0_usesOf_22 ?_
      exact j_iret (pc := 23) E R dX0_usesOf_23
    · refine j_aload_n (pc := 10) rfl 0 rfl E dX0_usesOf_10 ?_
      refine j_get (pc := 11) E xuX0 rfl s_29 (k := 0) (by decide) q_212 rfl (xflds_ref rfl) dX0_usesOf_11 ?_
      refine j_bipush (pc := 14) (v := 8) (by decide) E dX0_usesOf_14 ?_
      refine j_iload_n (pc := 16) rfl 1 rfl E dX0_usesOf_16 ?_
      refine j_iadd (pc := 17) E dX0_usesOf_17 ?_
      refine j_iald (pc := 18) E s_30 dX0_usesOf_18 ?_
      refine j_goto (pc := 19) (tgt := 23) E dX0_usesOf_19 (by decide) ?_
      exact j_iret (pc := 23) E R dX0_usesOf_23
def fX0_use (N : Nat) (σ : XS) (p1 : Int32) : Option XO := if p1 < 0 then some (0, σ) else if 6 ≤ p1 then some (0, σ) else gd (xin (8 + p1) 14) (xLet (xUp σ 30 (8 + p1).toNatClampNeg ((σ 30 (8 + p1).toNatClampNeg) + 1)) (fun m1 => gd (xin (8 + p1) 14) (some (0, m1))))
set_option maxRecDepth 100000 in
set_option maxHeartbeats 4000000 in
theorem kX0_use {N : Nat} {σ : XS} {p1 : Int32} {o : XO} (h : fX0_use N σ p1 = some o) : CtV yX0_use cX0_use 2 none 0 0 (fun Am ad => [.ref (Am 29), .int p1]) σ o := by
  refine ct_void (by decide) (fun _ _ => Nat.le_of_ble_eq_true rfl) (fun X E R => ?_)
  rw [← h]
  show JF X o 2 0 [(0, .ref (xa X 29)), (1, .int p1)] [] σ (if p1 < 0 then some (0, σ) else if 6 ≤ p1 then some (0, σ) else gd (xin (8 + p1) 14) (xLet (xUp σ 30 (8 + p1).toNatClampNeg ((σ 30 (8 + p1).toNatClampNeg) + 1)) (fun m1 => gd (xin (8 + p1) 14) (some (0, m1)))))
  refine j_iload_n (pc := 0) rfl 1 rfl E dX0_use_0 ?_
  refine j_if_lt (pc := 1) (tgt := 23) E dX0_use_1 (by decide) ?_ ?_
  · exact j_vret (pc := 23) E R dX0_use_23
  · refine j_iload_n (pc := 4) rfl 1 rfl E dX0_use_4 ?_
    refine j_bipush (pc := 5) (v := 6) (by decide) E dX0_use_5 ?_
    refine j_icmp_ge (pc := 7) (tgt := 23) E dX0_use_7 (by decide) ?_ ?_
    · exact j_vret (pc := 23) E R dX0_use_23
    · refine j_aload_n (pc := 10) rfl 0 rfl E dX0_use_10 ?_
      refine j_get (pc := 11) E xuX0 rfl s_29 (k := 0) (by decide) q_212 rfl (xflds_ref rfl) dX0_use_11 ?_
      refine j_bipush (pc := 14) (v := 8) (by decide) E dX0_use_14 ?_
      refine j_iload_n (pc := 16) rfl 1 rfl E dX0_use_16 ?_
      refine j_iadd (pc := 17) E dX0_use_17 ?_
      refine j_dup2 (pc := 18) rfl rfl E dX0_use_18 ?_
      refine j_iald (pc := 19) E s_30 dX0_use_19 ?_
      refine j_iconst (pc := 20) (v := 1) (by decide) E dX0_use_20 ?_
      refine j_iadd (pc := 21) E dX0_use_21 ?_
      refine JF.xlet (fun m1 e2 => ?_)
      refine j_iast (pc := 22) E s_30 dX0_use_22 e2 ?_
      exact j_vret (pc := 23) E R dX0_use_23
def fX0_settle_J19 (N : Nat) (v3 : Int32) (σ : XS) : Option XO := gd (xin 1 14) (xLet (xUp σ 30 (1 : Int32).toNatClampNeg ((σ 30 (1 : Int32).toNatClampNeg) + v3)) (fun m1 => gd (xin 1 14) (gd (xin 0 14) (xLet (xUp m1 30 (0 : Int32).toNatClampNeg ((m1 30 (0 : Int32).toNatClampNeg) + 1)) (fun m4 => gd (xin 0 14) (some (v3, m4)))))))
set_option maxRecDepth 100000 in
set_option maxHeartbeats 4000000 in
theorem lX0_settle_J19 (N : Nat) (v3 : Int32) {X : XC} {o : XO} (E : XE X cX0_settle RX0 4 0 0) (R : XI X o cX0_settle) (σ : XS) : JF X o 4 19 [(0, .ref (xa X 29)), (3, .int v3)] [] σ (fX0_settle_J19 N v3 σ) := by
  show JF X o 4 19 [(0, .ref (xa X 29)), (3, .int v3)] [] σ (gd (xin 1 14) (xLet (xUp σ 30 (1 : Int32).toNatClampNeg ((σ 30 (1 : Int32).toNatClampNeg) + v3)) (fun m1 => gd (xin 1 14) (gd (xin 0 14) (xLet (xUp m1 30 (0 : Int32).toNatClampNeg ((m1 30 (0 : Int32).toNatClampNeg) + 1)) (fun m4 => gd (xin 0 14) (some (v3, m4))))))))
  refine j_aload_n (pc := 19) rfl 0 rfl E dX0_settle_19 ?_
  refine j_get (pc := 20) E xuX0 rfl s_29 (k := 0) (by decide) q_212 rfl (xflds_ref rfl) dX0_settle_20 ?_
  refine j_iconst (pc := 23) (v := 1) (by decide) E dX0_settle_23 ?_
  refine j_dup2 (pc := 24) rfl rfl E dX0_settle_24 ?_
  refine j_iald (pc := 25) E s_30 dX0_settle_25 ?_
  refine j_iload_n (pc := 26) rfl 1 rfl E dX0_settle_26 ?_
  refine j_iadd (pc := 27) E dX0_settle_27 ?_
  refine JF.xlet (fun m1 e2 => ?_)
  refine j_iast (pc := 28) E s_30 dX0_settle_28 e2 ?_
  refine j_aload_n (pc := 29) rfl 0 rfl E dX0_settle_29 ?_
  refine j_get (pc := 30) E xuX0 rfl s_29 (k := 0) (by decide) q_212 rfl (xflds_ref rfl) dX0_settle_30 ?_
  refine j_iconst (pc := 33) (v := 0) (by decide) E dX0_settle_33 ?_
  refine j_dup2 (pc := 34) rfl rfl E dX0_settle_34 ?_
  refine j_iald (pc := 35) E s_30 dX0_settle_35 ?_
  refine j_iconst (pc := 36) (v := 1) (by decide) E dX0_settle_36 ?_
  refine j_iadd (pc := 37) E dX0_settle_37 ?_
  refine JF.xlet (fun m4 e5 => ?_)
  refine j_iast (pc := 38) E s_30 dX0_settle_38 e5 ?_
  refine j_iload_n (pc := 39) rfl 1 rfl E dX0_settle_39 ?_
  exact j_iret (pc := 40) E R dX0_settle_40
def fX0_settle (N : Nat) (σ : XS) (p1 : Int32) (p2 : Int32) (p3 : Int32) : Option XO := if p1 < 0 then fX0_settle_J19 N p3 σ else if 6 ≤ p1 then fX0_settle_J19 N p3 σ else xLet (xUp σ 30 (2 + p1).toNatClampNeg p2) (fun m7 => gd (xin (2 + p1) 14) (fX0_settle_J19 N p3 m7))
set_option maxRecDepth 100000 in
set_option maxHeartbeats 4000000 in
theorem kX0_settle {N : Nat} {σ : XS} {p1 : Int32} {p2 : Int32} {p3 : Int32} {o : XO} (h : fX0_settle N σ p1 p2 p3 = some o) : CtI yX0_settle cX0_settle 4 (some .int) 0 0 (fun Am ad => [.ref (Am 29), .int p1, .int p2, .int p3]) σ o := by
  refine ct_int (by decide) (fun _ _ => Nat.le_of_ble_eq_true rfl) (fun X E R => ?_)
  rw [← h]
  show JF X o 4 0 [(0, .ref (xa X 29)), (1, .int p1), (2, .int p2), (3, .int p3)] [] σ (if p1 < 0 then fX0_settle_J19 N p3 σ else if 6 ≤ p1 then fX0_settle_J19 N p3 σ else xLet (xUp σ 30 (2 + p1).toNatClampNeg p2) (fun m7 => gd (xin (2 + p1) 14) (fX0_settle_J19 N p3 m7)))
  refine j_iload_n (pc := 0) rfl 1 rfl E dX0_settle_0 ?_
  refine j_if_lt (pc := 1) (tgt := 19) E dX0_settle_1 (by decide) ?_ ?_
  · refine JF.sub [0, 3] rfl ?_
    exact lX0_settle_J19 N p3 E R σ
  · refine j_iload_n (pc := 4) rfl 1 rfl E dX0_settle_4 ?_
    refine j_bipush (pc := 5) (v := 6) (by decide) E dX0_settle_5 ?_
    refine j_icmp_ge (pc := 7) (tgt := 19) E dX0_settle_7 (by decide) ?_ ?_
    · refine JF.sub [0, 3] rfl ?_
      exact lX0_settle_J19 N p3 E R σ
    · refine j_aload_n (pc := 10) rfl 0 rfl E dX0_settle_10 ?_
      refine j_get (pc := 11) E xuX0 rfl s_29 (k := 0) (by decide) q_212 rfl (xflds_ref rfl) dX0_settle_11 ?_
      refine j_iconst (pc := 14) (v := 2) (by decide) E dX0_settle_14 ?_
      refine j_iload_n (pc := 15) rfl 1 rfl E dX0_settle_15 ?_
      refine j_iadd (pc := 16) E dX0_settle_16 ?_
      refine j_iload_n (pc := 17) rfl 2 rfl E dX0_settle_17 ?_
      refine JF.xlet (fun m7 e8 => ?_)
      refine j_iast (pc := 18) E s_30 dX0_settle_18 e8 ?_
      refine JF.sub [0, 3] rfl ?_
      exact lX0_settle_J19 N p3 E R m7
def fX0_pass (N : Nat) (σ : XS) : Option XO := gd (xin 0 14) (xLet (xUp σ 30 (0 : Int32).toNatClampNeg ((σ 30 (0 : Int32).toNatClampNeg) + 1)) (fun m1 => gd (xin 0 14) (gd (xin 0 14) (some ((m1 30 (0 : Int32).toNatClampNeg), m1)))))
set_option maxRecDepth 100000 in
set_option maxHeartbeats 4000000 in
theorem kX0_pass {N : Nat} {σ : XS} {o : XO} (h : fX0_pass N σ = some o) : CtI yX0_pass cX0_pass 1 (some .int) 0 0 (fun Am ad => [.ref (Am 29)]) σ o := by
  refine ct_int (by decide) (fun _ _ => Nat.le_of_ble_eq_true rfl) (fun X E R => ?_)
  rw [← h]
  show JF X o 1 0 [(0, .ref (xa X 29))] [] σ (gd (xin 0 14) (xLet (xUp σ 30 (0 : Int32).toNatClampNeg ((σ 30 (0 : Int32).toNatClampNeg) + 1)) (fun m1 => gd (xin 0 14) (gd (xin 0 14) (some ((m1 30 (0 : Int32).toNatClampNeg), m1))))))
  refine j_aload_n (pc := 0) rfl 0 rfl E dX0_pass_0 ?_
  refine j_get (pc := 1) E xuX0 rfl s_29 (k := 0) (by decide) q_212 rfl (xflds_ref rfl) dX0_pass_1 ?_
  refine j_iconst (pc := 4) (v := 0) (by decide) E dX0_pass_4 ?_
  refine j_dup2 (pc := 5) rfl rfl E dX0_pass_5 ?_
  refine j_iald (pc := 6) E s_30 dX0_pass_6 ?_
  refine j_iconst (pc := 7) (v := 1) (by decide) E dX0_pass_7 ?_
  refine j_iadd (pc := 8) E dX0_pass_8 ?_
  refine JF.xlet (fun m1 e2 => ?_)
  refine j_iast (pc := 9) E s_30 dX0_pass_9 e2 ?_
  refine j_aload_n (pc := 10) rfl 0 rfl E dX0_pass_10 ?_
  refine j_get (pc := 11) E xuX0 rfl s_29 (k := 0) (by decide) q_212 rfl (xflds_ref rfl) dX0_pass_11 ?_
  refine j_iconst (pc := 14) (v := 0) (by decide) E dX0_pass_14 ?_
  refine j_iald (pc := 15) E s_30 dX0_pass_15 ?_
  exact j_iret (pc := 16) E R dX0_pass_16
def fX0_remember_J21 (N : Nat) (σ : XS) : Option XO := gd (xin (σ 29 4) 8) (xLet (xUf σ (32 + (σ 29 4).toNatClampNeg) (va_cpy (σ 30) (σ (32 + (σ 29 4).toNatClampNeg)) (0 : Int32).toNatClampNeg (0 : Int32).toNatClampNeg (14 : Int32).toNatClampNeg)) (fun m4 => if (m4 29 4) = 7 then xLet (xUp m4 29 4 0) (fun m10 => xLet (xUp m10 29 5 (if 8 < ((m10 29 5) + 1) then 8 else ((m10 29 5) + 1))) (fun m12 => some (0, m12))) else xLet (xUp m4 29 4 ((m4 29 4) + 1)) (fun m6 => xLet (xUp m6 29 5 (if 8 < ((m6 29 5) + 1) then 8 else ((m6 29 5) + 1))) (fun m8 => some (0, m8)))))
set_option maxRecDepth 100000 in
set_option maxHeartbeats 4000000 in
theorem lX0_remember_J21 (N : Nat) {X : XC} {o : XO} (E : XE X cX0_remember RX0 1 1 60) (R : XV X o cX0_remember) (σ : XS) : JF X o 1 21 [(0, .ref (xa X 29))] [] σ (fX0_remember_J21 N σ) := by
  show JF X o 1 21 [(0, .ref (xa X 29))] [] σ (gd (xin (σ 29 4) 8) (xLet (xUf σ (32 + (σ 29 4).toNatClampNeg) (va_cpy (σ 30) (σ (32 + (σ 29 4).toNatClampNeg)) (0 : Int32).toNatClampNeg (0 : Int32).toNatClampNeg (14 : Int32).toNatClampNeg)) (fun m4 => if (m4 29 4) = 7 then xLet (xUp m4 29 4 0) (fun m10 => xLet (xUp m10 29 5 (if 8 < ((m10 29 5) + 1) then 8 else ((m10 29 5) + 1))) (fun m12 => some (0, m12))) else xLet (xUp m4 29 4 ((m4 29 4) + 1)) (fun m6 => xLet (xUp m6 29 5 (if 8 < ((m6 29 5) + 1) then 8 else ((m6 29 5) + 1))) (fun m8 => some (0, m8))))))
  refine j_aload_n (pc := 21) rfl 0 rfl E dX0_remember_21 ?_
  refine j_get (pc := 22) E xuX0 rfl s_29 (k := 0) (by decide) q_212 rfl (xflds_ref rfl) dX0_remember_22 ?_
  refine j_iconst (pc := 25) (v := 0) (by decide) E dX0_remember_25 ?_
  refine j_aload_n (pc := 26) rfl 0 rfl E dX0_remember_26 ?_
  refine j_get (pc := 27) E xuX0 rfl s_29 (k := 1) (by decide) q_213 rfl (xflds_ref rfl) dX0_remember_27 ?_
  refine j_aload_n (pc := 30) rfl 0 rfl E dX0_remember_30 ?_
  refine j_get (pc := 31) E xuX0 rfl s_29 (k := 4) (by decide) q_216 rfl (xflds_int rfl) dX0_remember_31 ?_
  refine j_aald (pc := 34) (b := 32) E s_31 (by decide) dX0_remember_34 (fun g3 => ?_)
  refine j_iconst (pc := 35) (v := 0) (by decide) E dX0_remember_35 ?_
  refine j_bipush (pc := 36) (v := 14) (by decide) E dX0_remember_36 ?_
  refine JF.xlet (fun m4 e5 => ?_)
  refine j_copy (pc := 38) E s_30 (xg_32 _ (xin_lt g3)) q_762 q_764 q_763 q_73 (by decide) (by decide) (by decide) (by decide) (by decide) (by decide) (Nat.le_of_ble_eq_true rfl) dX0_remember_38 e5 ?_
  refine j_aload_n (pc := 41) rfl 0 rfl E dX0_remember_41 ?_
  refine j_aload_n (pc := 42) rfl 0 rfl E dX0_remember_42 ?_
  refine j_get (pc := 43) E xuX0 rfl s_29 (k := 4) (by decide) q_216 rfl (xflds_int rfl) dX0_remember_43 ?_
  refine j_bipush (pc := 46) (v := 7) (by decide) E dX0_remember_46 ?_
  refine j_icmp_ne (pc := 48) (tgt := 55) E dX0_remember_48 (by decide) ?_ ?_
  · refine j_iconst (pc := 51) (v := 0) (by decide) E dX0_remember_51 ?_
    refine j_goto (pc := 52) (tgt := 61) E dX0_remember_52 (by decide) ?_
    refine JF.xlet (fun m10 e11 => ?_)
    refine j_put (pc := 61) E xuX0 tyX0 tyX0_ok nmX0 rfl s_29 rfl (k := 4) (by decide) q_216 rfl rfl (ty := .int) (by decide +kernel) rfl rfl dX0_remember_61 e11 ?_
    refine j_aload_n (pc := 64) rfl 0 rfl E dX0_remember_64 ?_
    refine j_aload_n (pc := 65) rfl 0 rfl E dX0_remember_65 ?_
    refine j_get (pc := 66) E xuX0 rfl s_29 (k := 5) (by decide) q_217 rfl (xflds_int rfl) dX0_remember_66 ?_
    refine j_iconst (pc := 69) (v := 1) (by decide) E dX0_remember_69 ?_
    refine j_iadd (pc := 70) E dX0_remember_70 ?_
    refine j_bipush (pc := 71) (v := 8) (by decide) E dX0_remember_71 ?_
    refine j_min (pc := 73) E q_765 q_766 q_74 q_767 (by decide) (Nat.le_of_ble_eq_true rfl) dX0_remember_73 ?_
    refine JF.xlet (fun m12 e13 => ?_)
    refine j_put (pc := 76) E xuX0 tyX0 tyX0_ok nmX0 rfl s_29 rfl (k := 5) (by decide) q_217 rfl rfl (ty := .int) (by decide +kernel) rfl rfl dX0_remember_76 e13 ?_
    exact j_vret (pc := 79) E R dX0_remember_79
  · refine j_aload_n (pc := 55) rfl 0 rfl E dX0_remember_55 ?_
    refine j_get (pc := 56) E xuX0 rfl s_29 (k := 4) (by decide) q_216 rfl (xflds_int rfl) dX0_remember_56 ?_
    refine j_iconst (pc := 59) (v := 1) (by decide) E dX0_remember_59 ?_
    refine j_iadd (pc := 60) E dX0_remember_60 ?_
    refine JF.xlet (fun m6 e7 => ?_)
    refine j_put (pc := 61) E xuX0 tyX0 tyX0_ok nmX0 rfl s_29 rfl (k := 4) (by decide) q_216 rfl rfl (ty := .int) (by decide +kernel) rfl rfl dX0_remember_61 e7 ?_
    refine j_aload_n (pc := 64) rfl 0 rfl E dX0_remember_64 ?_
    refine j_aload_n (pc := 65) rfl 0 rfl E dX0_remember_65 ?_
    refine j_get (pc := 66) E xuX0 rfl s_29 (k := 5) (by decide) q_217 rfl (xflds_int rfl) dX0_remember_66 ?_
    refine j_iconst (pc := 69) (v := 1) (by decide) E dX0_remember_69 ?_
    refine j_iadd (pc := 70) E dX0_remember_70 ?_
    refine j_bipush (pc := 71) (v := 8) (by decide) E dX0_remember_71 ?_
    refine j_min (pc := 73) E q_765 q_766 q_74 q_767 (by decide) (Nat.le_of_ble_eq_true rfl) dX0_remember_73 ?_
    refine JF.xlet (fun m8 e9 => ?_)
    refine j_put (pc := 76) E xuX0 tyX0 tyX0_ok nmX0 rfl s_29 rfl (k := 5) (by decide) q_217 rfl rfl (ty := .int) (by decide +kernel) rfl rfl dX0_remember_76 e9 ?_
    exact j_vret (pc := 79) E R dX0_remember_79
def fX0_remember_J16 (N : Nat) (σ : XS) : Option XO := xLet (xUp σ 29 4 0) (fun m1 => fX0_remember_J21 N m1)
set_option maxRecDepth 100000 in
set_option maxHeartbeats 4000000 in
theorem lX0_remember_J16 (N : Nat) {X : XC} {o : XO} (E : XE X cX0_remember RX0 1 1 60) (R : XV X o cX0_remember) (σ : XS) : JF X o 1 16 [(0, .ref (xa X 29))] [] σ (fX0_remember_J16 N σ) := by
  show JF X o 1 16 [(0, .ref (xa X 29))] [] σ (xLet (xUp σ 29 4 0) (fun m1 => fX0_remember_J21 N m1))
  refine j_aload_n (pc := 16) rfl 0 rfl E dX0_remember_16 ?_
  refine j_iconst (pc := 17) (v := 0) (by decide) E dX0_remember_17 ?_
  refine JF.xlet (fun m1 e2 => ?_)
  refine j_put (pc := 18) E xuX0 tyX0 tyX0_ok nmX0 rfl s_29 rfl (k := 4) (by decide) q_216 rfl rfl (ty := .int) (by decide +kernel) rfl rfl dX0_remember_18 e2 ?_
  refine JF.sub [0] rfl ?_
  exact lX0_remember_J21 N E R m1
def fX0_remember (N : Nat) (σ : XS) : Option XO := if (σ 29 4) < 0 then fX0_remember_J16 N σ else if (σ 29 4) < 8 then fX0_remember_J21 N σ else fX0_remember_J16 N σ
set_option maxRecDepth 100000 in
set_option maxHeartbeats 4000000 in
theorem kX0_remember {N : Nat} {σ : XS} {o : XO} (h : fX0_remember N σ = some o) : CtV yX0_remember cX0_remember 1 none 1 60 (fun Am ad => [.ref (Am 29)]) σ o := by
  refine ct_void (by decide) (fun _ _ => Nat.le_of_ble_eq_true rfl) (fun X E R => ?_)
  rw [← h]
  show JF X o 1 0 [(0, .ref (xa X 29))] [] σ (if (σ 29 4) < 0 then fX0_remember_J16 N σ else if (σ 29 4) < 8 then fX0_remember_J21 N σ else fX0_remember_J16 N σ)
  refine j_aload_n (pc := 0) rfl 0 rfl E dX0_remember_0 ?_
  refine j_get (pc := 1) E xuX0 rfl s_29 (k := 4) (by decide) q_216 rfl (xflds_int rfl) dX0_remember_1 ?_
  refine j_if_lt (pc := 4) (tgt := 16) E dX0_remember_4 (by decide) ?_ ?_
  · refine JF.sub [0] rfl ?_
    exact lX0_remember_J16 N E R σ
  · refine j_aload_n (pc := 7) rfl 0 rfl E dX0_remember_7 ?_
    refine j_get (pc := 8) E xuX0 rfl s_29 (k := 4) (by decide) q_216 rfl (xflds_int rfl) dX0_remember_8 ?_
    refine j_bipush (pc := 11) (v := 8) (by decide) E dX0_remember_11 ?_
    refine j_icmp_lt (pc := 13) (tgt := 21) E dX0_remember_13 (by decide) ?_ ?_
    · refine JF.sub [0] rfl ?_
      exact lX0_remember_J21 N E R σ
    · refine JF.sub [0] rfl ?_
      exact lX0_remember_J16 N E R σ
def fX0_takeBack_J28 (N : Nat) (t0 : Int32) (σ : XS) : Option XO := xLet (xUp σ 29 4 t0) (fun m1 => gd (xin (m1 29 4) 8) (xLet (xUf m1 30 (va_cpy (m1 (32 + (m1 29 4).toNatClampNeg)) (m1 30) (0 : Int32).toNatClampNeg (0 : Int32).toNatClampNeg (14 : Int32).toNatClampNeg)) (fun m4 => xLet (xUp m4 29 5 ((m4 29 5) - 1)) (fun m6 => some ((m6 29 5), m6)))))
set_option maxRecDepth 100000 in
set_option maxHeartbeats 4000000 in
theorem lX0_takeBack_J28 (N : Nat) (t0 : Int32) {X : XC} {o : XO} (E : XE X cX0_takeBack RX0 1 1 60) (R : XI X o cX0_takeBack) (σ : XS) : JF X o 1 28 [(0, .ref (xa X 29))] [.int t0, .ref (xa X 29)] σ (fX0_takeBack_J28 N t0 σ) := by
  show JF X o 1 28 [(0, .ref (xa X 29))] [.int t0, .ref (xa X 29)] σ (xLet (xUp σ 29 4 t0) (fun m1 => gd (xin (m1 29 4) 8) (xLet (xUf m1 30 (va_cpy (m1 (32 + (m1 29 4).toNatClampNeg)) (m1 30) (0 : Int32).toNatClampNeg (0 : Int32).toNatClampNeg (14 : Int32).toNatClampNeg)) (fun m4 => xLet (xUp m4 29 5 ((m4 29 5) - 1)) (fun m6 => some ((m6 29 5), m6))))))
  refine JF.xlet (fun m1 e2 => ?_)
  refine j_put (pc := 28) E xuX0 tyX0 tyX0_ok nmX0 rfl s_29 rfl (k := 4) (by decide) q_216 rfl rfl (ty := .int) (by decide +kernel) rfl rfl dX0_takeBack_28 e2 ?_
  refine j_aload_n (pc := 31) rfl 0 rfl E dX0_takeBack_31 ?_
  refine j_get (pc := 32) E xuX0 rfl s_29 (k := 1) (by decide) q_213 rfl (xflds_ref rfl) dX0_takeBack_32 ?_
  refine j_aload_n (pc := 35) rfl 0 rfl E dX0_takeBack_35 ?_
  refine j_get (pc := 36) E xuX0 rfl s_29 (k := 4) (by decide) q_216 rfl (xflds_int rfl) dX0_takeBack_36 ?_
  refine j_aald (pc := 39) (b := 32) E s_31 (by decide) dX0_takeBack_39 (fun g3 => ?_)
  refine j_iconst (pc := 40) (v := 0) (by decide) E dX0_takeBack_40 ?_
  refine j_aload_n (pc := 41) rfl 0 rfl E dX0_takeBack_41 ?_
  refine j_get (pc := 42) E xuX0 rfl s_29 (k := 0) (by decide) q_212 rfl (xflds_ref rfl) dX0_takeBack_42 ?_
  refine j_iconst (pc := 45) (v := 0) (by decide) E dX0_takeBack_45 ?_
  refine j_bipush (pc := 46) (v := 14) (by decide) E dX0_takeBack_46 ?_
  refine JF.xlet (fun m4 e5 => ?_)
  refine j_copy (pc := 48) E (xg_32 _ (xin_lt g3)) s_30 q_762 q_764 q_763 q_73 (by decide) (by decide) (by decide) (by decide) (by decide) (by decide) (Nat.le_of_ble_eq_true rfl) dX0_takeBack_48 e5 ?_
  refine j_aload_n (pc := 51) rfl 0 rfl E dX0_takeBack_51 ?_
  refine j_dup (pc := 52) rfl E dX0_takeBack_52 ?_
  refine j_get (pc := 53) E xuX0 rfl s_29 (k := 5) (by decide) q_217 rfl (xflds_int rfl) dX0_takeBack_53 ?_
  refine j_iconst (pc := 56) (v := 1) (by decide) E dX0_takeBack_56 ?_
  refine j_isub (pc := 57) E dX0_takeBack_57 ?_
  refine JF.xlet (fun m6 e7 => ?_)
  refine j_put (pc := 58) E xuX0 tyX0 tyX0_ok nmX0 rfl s_29 rfl (k := 5) (by decide) q_217 rfl rfl (ty := .int) (by decide +kernel) rfl rfl dX0_takeBack_58 e7 ?_
  refine j_aload_n (pc := 61) rfl 0 rfl E dX0_takeBack_61 ?_
  refine j_get (pc := 62) E xuX0 rfl s_29 (k := 5) (by decide) q_217 rfl (xflds_int rfl) dX0_takeBack_62 ?_
  exact j_iret (pc := 65) E R dX0_takeBack_65
def fX0_takeBack_J17 (N : Nat) (σ : XS) : Option XO := fX0_takeBack_J28 N 7 σ
set_option maxRecDepth 100000 in
set_option maxHeartbeats 4000000 in
theorem lX0_takeBack_J17 (N : Nat) {X : XC} {o : XO} (E : XE X cX0_takeBack RX0 1 1 60) (R : XI X o cX0_takeBack) (σ : XS) : JF X o 1 17 [(0, .ref (xa X 29))] [.ref (xa X 29)] σ (fX0_takeBack_J17 N σ) := by
  show JF X o 1 17 [(0, .ref (xa X 29))] [.ref (xa X 29)] σ (fX0_takeBack_J28 N 7 σ)
  refine j_bipush (pc := 17) (v := 7) (by decide) E dX0_takeBack_17 ?_
  refine j_goto (pc := 19) (tgt := 28) E dX0_takeBack_19 (by decide) ?_
  refine JF.sub [0] rfl ?_
  exact lX0_takeBack_J28 N 7 E R σ
def fX0_takeBack (N : Nat) (σ : XS) : Option XO := if (σ 29 4) ≤ 0 then fX0_takeBack_J17 N σ else if (σ 29 4) < 8 then fX0_takeBack_J28 N ((σ 29 4) - 1) σ else fX0_takeBack_J17 N σ
set_option maxRecDepth 100000 in
set_option maxHeartbeats 4000000 in
theorem kX0_takeBack {N : Nat} {σ : XS} {o : XO} (h : fX0_takeBack N σ = some o) : CtI yX0_takeBack cX0_takeBack 1 (some .int) 1 60 (fun Am ad => [.ref (Am 29)]) σ o := by
  refine ct_int (by decide) (fun _ _ => Nat.le_of_ble_eq_true rfl) (fun X E R => ?_)
  rw [← h]
  show JF X o 1 0 [(0, .ref (xa X 29))] [] σ (if (σ 29 4) ≤ 0 then fX0_takeBack_J17 N σ else if (σ 29 4) < 8 then fX0_takeBack_J28 N ((σ 29 4) - 1) σ else fX0_takeBack_J17 N σ)
  refine j_aload_n (pc := 0) rfl 0 rfl E dX0_takeBack_0 ?_
  refine j_aload_n (pc := 1) rfl 0 rfl E dX0_takeBack_1 ?_
  refine j_get (pc := 2) E xuX0 rfl s_29 (k := 4) (by decide) q_216 rfl (xflds_int rfl) dX0_takeBack_2 ?_
  refine j_if_le (pc := 5) (tgt := 17) E dX0_takeBack_5 (by decide) ?_ ?_
  · refine JF.sub [0] rfl ?_
    exact lX0_takeBack_J17 N E R σ
  · refine j_aload_n (pc := 8) rfl 0 rfl E dX0_takeBack_8 ?_
    refine j_get (pc := 9) E xuX0 rfl s_29 (k := 4) (by decide) q_216 rfl (xflds_int rfl) dX0_takeBack_9 ?_
    refine j_bipush (pc := 12) (v := 8) (by decide) E dX0_takeBack_12 ?_
    refine j_icmp_lt (pc := 14) (tgt := 22) E dX0_takeBack_14 (by decide) ?_ ?_
    · refine j_aload_n (pc := 22) rfl 0 rfl E dX0_takeBack_22 ?_
      refine j_get (pc := 23) E xuX0 rfl s_29 (k := 4) (by decide) q_216 rfl (xflds_int rfl) dX0_takeBack_23 ?_
      refine j_iconst (pc := 26) (v := 1) (by decide) E dX0_takeBack_26 ?_
      refine j_isub (pc := 27) E dX0_takeBack_27 ?_
      refine JF.sub [0] rfl ?_
      exact lX0_takeBack_J28 N ((σ 29 4) - 1) E R σ
    · refine JF.sub [0] rfl ?_
      exact lX0_takeBack_J17 N E R σ
def fX0_isStored (N : Nat) (σ : XS) (p1 : Int32) : Option XO := if p1 < 0 then some (0, σ) else if 2 ≤ p1 then some (0, σ) else gd (xin p1 2) (if (σ 43 p1.toNatClampNeg) = 0 then some (0, σ) else some (1, σ))
set_option maxRecDepth 100000 in
set_option maxHeartbeats 4000000 in
theorem kX0_isStored {N : Nat} {σ : XS} {p1 : Int32} {o : XO} (h : fX0_isStored N σ p1 = some o) : CtI yX0_isStored cX0_isStored 2 (some .boolean) 0 0 (fun Am ad => [.ref (Am 29), .int p1]) σ o := by
  refine ct_z (by decide) (fun _ _ => Nat.le_of_ble_eq_true rfl) (fun X E R => ?_)
  rw [← h]
  show JF X o 2 0 [(0, .ref (xa X 29)), (1, .int p1)] [] σ (if p1 < 0 then some (0, σ) else if 2 ≤ p1 then some (0, σ) else gd (xin p1 2) (if (σ 43 p1.toNatClampNeg) = 0 then some (0, σ) else some (1, σ)))
  refine j_iload_n (pc := 0) rfl 1 rfl E dX0_isStored_0 ?_
  refine j_if_lt (pc := 1) (tgt := 22) E dX0_isStored_1 (by decide) ?_ ?_
  · refine j_iconst (pc := 22) (v := 0) (by decide) E dX0_isStored_22 ?_
    exact j_zret (pc := 23) E R rfl dX0_isStored_23
  · refine j_iload_n (pc := 4) rfl 1 rfl E dX0_isStored_4 ?_
    refine j_iconst (pc := 5) (v := 2) (by decide) E dX0_isStored_5 ?_
    refine j_icmp_ge (pc := 6) (tgt := 22) E dX0_isStored_6 (by decide) ?_ ?_
    · refine j_iconst (pc := 22) (v := 0) (by decide) E dX0_isStored_22 ?_
      exact j_zret (pc := 23) E R rfl dX0_isStored_23
    · refine j_aload_n (pc := 9) rfl 0 rfl E dX0_isStored_9 ?_
      refine j_get (pc := 10) E xuX0 rfl s_29 (k := 3) (by decide) q_215 rfl (xflds_ref rfl) dX0_isStored_10 ?_
      refine j_iload_n (pc := 13) rfl 1 rfl E dX0_isStored_13 ?_
      refine j_zald (pc := 14) E s_43 dX0_isStored_14 ?_
      refine j_if_eq (pc := 15) (tgt := 22) E dX0_isStored_15 (by decide) ?_ ?_
      · refine j_iconst (pc := 22) (v := 0) (by decide) E dX0_isStored_22 ?_
        exact j_zret (pc := 23) E R rfl dX0_isStored_23
      · refine j_iconst (pc := 18) (v := 1) (by decide) E dX0_isStored_18 ?_
        refine j_goto (pc := 19) (tgt := 23) E dX0_isStored_19 (by decide) ?_
        exact j_zret (pc := 23) E R rfl dX0_isStored_23
def fX0_store (N : Nat) (σ : XS) (p1 : Int32) : Option XO := if p1 < 0 then gd (xin 0 14) (some ((σ 30 (0 : Int32).toNatClampNeg), σ)) else if 2 ≤ p1 then gd (xin 0 14) (some ((σ 30 (0 : Int32).toNatClampNeg), σ)) else gd (xin p1 2) (xLet (xUf σ (41 + p1.toNatClampNeg) (va_cpy (σ 30) (σ (41 + p1.toNatClampNeg)) (0 : Int32).toNatClampNeg (0 : Int32).toNatClampNeg (14 : Int32).toNatClampNeg)) (fun m2 => xLet (xUp m2 43 p1.toNatClampNeg (vp_nar .boolean 1)) (fun m4 => gd (xin p1 2) (gd (xin 0 14) (some ((m4 30 (0 : Int32).toNatClampNeg), m4))))))
set_option maxRecDepth 100000 in
set_option maxHeartbeats 4000000 in
theorem kX0_store {N : Nat} {σ : XS} {p1 : Int32} {o : XO} (h : fX0_store N σ p1 = some o) : CtI yX0_store cX0_store 2 (some .int) 1 60 (fun Am ad => [.ref (Am 29), .int p1]) σ o := by
  refine ct_int (by decide) (fun _ _ => Nat.le_of_ble_eq_true rfl) (fun X E R => ?_)
  rw [← h]
  show JF X o 2 0 [(0, .ref (xa X 29)), (1, .int p1)] [] σ (if p1 < 0 then gd (xin 0 14) (some ((σ 30 (0 : Int32).toNatClampNeg), σ)) else if 2 ≤ p1 then gd (xin 0 14) (some ((σ 30 (0 : Int32).toNatClampNeg), σ)) else gd (xin p1 2) (xLet (xUf σ (41 + p1.toNatClampNeg) (va_cpy (σ 30) (σ (41 + p1.toNatClampNeg)) (0 : Int32).toNatClampNeg (0 : Int32).toNatClampNeg (14 : Int32).toNatClampNeg)) (fun m2 => xLet (xUp m2 43 p1.toNatClampNeg (vp_nar .boolean 1)) (fun m4 => gd (xin p1 2) (gd (xin 0 14) (some ((m4 30 (0 : Int32).toNatClampNeg), m4)))))))
  refine j_iload_n (pc := 0) rfl 1 rfl E dX0_store_0 ?_
  refine j_if_lt (pc := 1) (tgt := 33) E dX0_store_1 (by decide) ?_ ?_
  · refine j_aload_n (pc := 33) rfl 0 rfl E dX0_store_33 ?_
    refine j_get (pc := 34) E xuX0 rfl s_29 (k := 0) (by decide) q_212 rfl (xflds_ref rfl) dX0_store_34 ?_
    refine j_iconst (pc := 37) (v := 0) (by decide) E dX0_store_37 ?_
    refine j_iald (pc := 38) E s_30 dX0_store_38 ?_
    exact j_iret (pc := 39) E R dX0_store_39
  · refine j_iload_n (pc := 4) rfl 1 rfl E dX0_store_4 ?_
    refine j_iconst (pc := 5) (v := 2) (by decide) E dX0_store_5 ?_
    refine j_icmp_ge (pc := 6) (tgt := 33) E dX0_store_6 (by decide) ?_ ?_
    · refine j_aload_n (pc := 33) rfl 0 rfl E dX0_store_33 ?_
      refine j_get (pc := 34) E xuX0 rfl s_29 (k := 0) (by decide) q_212 rfl (xflds_ref rfl) dX0_store_34 ?_
      refine j_iconst (pc := 37) (v := 0) (by decide) E dX0_store_37 ?_
      refine j_iald (pc := 38) E s_30 dX0_store_38 ?_
      exact j_iret (pc := 39) E R dX0_store_39
    · refine j_aload_n (pc := 9) rfl 0 rfl E dX0_store_9 ?_
      refine j_get (pc := 10) E xuX0 rfl s_29 (k := 0) (by decide) q_212 rfl (xflds_ref rfl) dX0_store_10 ?_
      refine j_iconst (pc := 13) (v := 0) (by decide) E dX0_store_13 ?_
      refine j_aload_n (pc := 14) rfl 0 rfl E dX0_store_14 ?_
      refine j_get (pc := 15) E xuX0 rfl s_29 (k := 2) (by decide) q_214 rfl (xflds_ref rfl) dX0_store_15 ?_
      refine j_iload_n (pc := 18) rfl 1 rfl E dX0_store_18 ?_
      refine j_aald (pc := 19) (b := 41) E s_40 (by decide) dX0_store_19 (fun g1 => ?_)
      refine j_iconst (pc := 20) (v := 0) (by decide) E dX0_store_20 ?_
      refine j_bipush (pc := 21) (v := 14) (by decide) E dX0_store_21 ?_
      refine JF.xlet (fun m2 e3 => ?_)
      refine j_copy (pc := 23) E s_30 (xg_41 _ (xin_lt g1)) q_762 q_764 q_763 q_73 (by decide) (by decide) (by decide) (by decide) (by decide) (by decide) (Nat.le_of_ble_eq_true rfl) dX0_store_23 e3 ?_
      refine j_aload_n (pc := 26) rfl 0 rfl E dX0_store_26 ?_
      refine j_get (pc := 27) E xuX0 rfl s_29 (k := 3) (by decide) q_215 rfl (xflds_ref rfl) dX0_store_27 ?_
      refine j_iload_n (pc := 30) rfl 1 rfl E dX0_store_30 ?_
      refine j_iconst (pc := 31) (v := 1) (by decide) E dX0_store_31 ?_
      refine JF.xlet (fun m4 e5 => ?_)
      refine j_zast (pc := 32) E s_43 dX0_store_32 e5 ?_
      refine j_aload_n (pc := 33) rfl 0 rfl E dX0_store_33 ?_
      refine j_get (pc := 34) E xuX0 rfl s_29 (k := 0) (by decide) q_212 rfl (xflds_ref rfl) dX0_store_34 ?_
      refine j_iconst (pc := 37) (v := 0) (by decide) E dX0_store_37 ?_
      refine j_iald (pc := 38) E s_30 dX0_store_38 ?_
      exact j_iret (pc := 39) E R dX0_store_39
def fX0_restore (N : Nat) (σ : XS) (p1 : Int32) : Option XO := xB (fX0_isStored N σ p1) (fun y1 m2 => if y1 = 0 then gd (xin 0 14) (some ((m2 30 (0 : Int32).toNatClampNeg), m2)) else gd (xin p1 2) (xLet (xUf m2 30 (va_cpy (m2 (41 + p1.toNatClampNeg)) (m2 30) (0 : Int32).toNatClampNeg (0 : Int32).toNatClampNeg (14 : Int32).toNatClampNeg)) (fun m5 => xLet (xUp m5 29 5 0) (fun m7 => gd (xin 0 14) (some ((m7 30 (0 : Int32).toNatClampNeg), m7))))))
set_option maxRecDepth 100000 in
set_option maxHeartbeats 4000000 in
theorem kX0_restore {N : Nat} {σ : XS} {p1 : Int32} {o : XO} (h : fX0_restore N σ p1 = some o) : CtI yX0_restore cX0_restore 2 (some .int) 1 60 (fun Am ad => [.ref (Am 29), .int p1]) σ o := by
  refine ct_int (by decide) (fun _ _ => Nat.le_of_ble_eq_true rfl) (fun X E R => ?_)
  rw [← h]
  show JF X o 2 0 [(0, .ref (xa X 29)), (1, .int p1)] [] σ (xB (fX0_isStored N σ p1) (fun y1 m2 => if y1 = 0 then gd (xin 0 14) (some ((m2 30 (0 : Int32).toNatClampNeg), m2)) else gd (xin p1 2) (xLet (xUf m2 30 (va_cpy (m2 (41 + p1.toNatClampNeg)) (m2 30) (0 : Int32).toNatClampNeg (0 : Int32).toNatClampNeg (14 : Int32).toNatClampNeg)) (fun m5 => xLet (xUp m5 29 5 0) (fun m7 => gd (xin 0 14) (some ((m7 30 (0 : Int32).toNatClampNeg), m7)))))))
  refine j_aload_n (pc := 0) rfl 0 rfl E dX0_restore_0 ?_
  refine j_iload_n (pc := 1) rfl 1 rfl E dX0_restore_1 ?_
  refine JF.xb (fun y1 m2 h3 => ?_)
  refine j_callVi (pc := 2) (st := []) E (kX0_isStored h3) mv_X0_isStored rfl s_29 q_826 [.int p1] rfl rfl rfl (by decide) (Nat.le_of_ble_eq_true rfl) dX0_restore_2 ?_
  refine j_if_eq (pc := 5) (tgt := 30) E dX0_restore_5 (by decide) ?_ ?_
  · refine j_aload_n (pc := 30) rfl 0 rfl E dX0_restore_30 ?_
    refine j_get (pc := 31) E xuX0 rfl s_29 (k := 0) (by decide) q_212 rfl (xflds_ref rfl) dX0_restore_31 ?_
    refine j_iconst (pc := 34) (v := 0) (by decide) E dX0_restore_34 ?_
    refine j_iald (pc := 35) E s_30 dX0_restore_35 ?_
    exact j_iret (pc := 36) E R dX0_restore_36
  · refine j_aload_n (pc := 8) rfl 0 rfl E dX0_restore_8 ?_
    refine j_get (pc := 9) E xuX0 rfl s_29 (k := 2) (by decide) q_214 rfl (xflds_ref rfl) dX0_restore_9 ?_
    refine j_iload_n (pc := 12) rfl 1 rfl E dX0_restore_12 ?_
    refine j_aald (pc := 13) (b := 41) E s_40 (by decide) dX0_restore_13 (fun g4 => ?_)
    refine j_iconst (pc := 14) (v := 0) (by decide) E dX0_restore_14 ?_
    refine j_aload_n (pc := 15) rfl 0 rfl E dX0_restore_15 ?_
    refine j_get (pc := 16) E xuX0 rfl s_29 (k := 0) (by decide) q_212 rfl (xflds_ref rfl) dX0_restore_16 ?_
    refine j_iconst (pc := 19) (v := 0) (by decide) E dX0_restore_19 ?_
    refine j_bipush (pc := 20) (v := 14) (by decide) E dX0_restore_20 ?_
    refine JF.xlet (fun m5 e6 => ?_)
    refine j_copy (pc := 22) E (xg_41 _ (xin_lt g4)) s_30 q_762 q_764 q_763 q_73 (by decide) (by decide) (by decide) (by decide) (by decide) (by decide) (Nat.le_of_ble_eq_true rfl) dX0_restore_22 e6 ?_
    refine j_aload_n (pc := 25) rfl 0 rfl E dX0_restore_25 ?_
    refine j_iconst (pc := 26) (v := 0) (by decide) E dX0_restore_26 ?_
    refine JF.xlet (fun m7 e8 => ?_)
    refine j_put (pc := 27) E xuX0 tyX0 tyX0_ok nmX0 rfl s_29 rfl (k := 5) (by decide) q_217 rfl rfl (ty := .int) (by decide +kernel) rfl rfl dX0_restore_27 e8 ?_
    refine j_aload_n (pc := 30) rfl 0 rfl E dX0_restore_30 ?_
    refine j_get (pc := 31) E xuX0 rfl s_29 (k := 0) (by decide) q_212 rfl (xflds_ref rfl) dX0_restore_31 ?_
    refine j_iconst (pc := 34) (v := 0) (by decide) E dX0_restore_34 ?_
    refine j_iald (pc := 35) E s_30 dX0_restore_35 ?_
    exact j_iret (pc := 36) E R dX0_restore_36
def fX9_at (N : Nat) (σ : XS) (r1 : Nat) (p2 : Int32) : Option XO := if p2 < 0 then some (0, σ) else if (nI (xlen r1)) ≤ p2 then some (0, σ) else gd (xin p2 (xlen r1)) (some ((σ r1 p2.toNatClampNeg), σ))
set_option maxRecDepth 100000 in
set_option maxHeartbeats 4000000 in
theorem kX9_at {N : Nat} {σ : XS} {r1 : Nat} {p2 : Int32} {o : XO} (hr1 : xRow r1) (h : fX9_at N σ r1 p2 = some o) : CtI yX9_at cX9_at 2 (some .int) 0 0 (fun Am ad => [.ref (Am r1), .int p2]) σ o := by
  refine ct_int (by decide) (fun _ _ => Nat.le_of_ble_eq_true rfl) (fun X E R => ?_)
  rw [← h]
  show JF X o 2 0 [(0, .ref (xa X r1)), (1, .int p2)] [] σ (if p2 < 0 then some (0, σ) else if (nI (xlen r1)) ≤ p2 then some (0, σ) else gd (xin p2 (xlen r1)) (some ((σ r1 p2.toNatClampNeg), σ)))
  refine j_iload_n (pc := 0) rfl 1 rfl E dX9_at_0 ?_
  refine j_if_lt (pc := 1) (tgt := 16) E dX9_at_1 (by decide) ?_ ?_
  · refine j_iconst (pc := 16) (v := 0) (by decide) E dX9_at_16 ?_
    exact j_iret (pc := 17) E R dX9_at_17
  · refine j_iload_n (pc := 4) rfl 1 rfl E dX9_at_4 ?_
    refine j_aload_n (pc := 5) rfl 0 rfl E dX9_at_5 ?_
    refine j_alen (pc := 6) (v := (nI (xlen r1))) E hr1 rfl rfl dX9_at_6 ?_
    refine j_icmp_ge (pc := 7) (tgt := 16) E dX9_at_7 (by decide) ?_ ?_
    · refine j_iconst (pc := 16) (v := 0) (by decide) E dX9_at_16 ?_
      exact j_iret (pc := 17) E R dX9_at_17
    · refine j_aload_n (pc := 10) rfl 0 rfl E dX9_at_10 ?_
      refine j_iload_n (pc := 11) rfl 1 rfl E dX9_at_11 ?_
      refine j_iald (pc := 12) E hr1 dX9_at_12 ?_
      refine j_goto (pc := 13) (tgt := 17) E dX9_at_13 (by decide) ?_
      exact j_iret (pc := 17) E R dX9_at_17
def fatW (N : Nat) (σ : XS) (w : Nat) (p2 : Int32) : Option XO := if p2 < 0 then some (0, σ) else if (nI (xkrow w).length) ≤ p2 then some (0, σ) else gd (xin p2 (xkrow w).length) (some (((xkrow w).getD p2.toNatClampNeg 0), σ))
set_option maxRecDepth 100000 in
set_option maxHeartbeats 4000000 in
theorem katW {N : Nat} {σ : XS} {w : Nat} {p2 : Int32} {o : XO} (hw : w = 200 ∨ w = 201) (h : fatW N σ w p2 = some o) : CtI yX9_at cX9_at 2 (some .int) 0 0 (fun Am ad => [.ref (ad w), .int p2]) σ o := by
  refine ct_int (by decide) (fun _ _ => Nat.le_of_ble_eq_true rfl) (fun X E R => ?_)
  rw [← h]
  show JF X o 2 0 [(0, .ref (xk X w)), (1, .int p2)] [] σ (if p2 < 0 then some (0, σ) else if (nI (xkrow w).length) ≤ p2 then some (0, σ) else gd (xin p2 (xkrow w).length) (some (((xkrow w).getD p2.toNatClampNeg 0), σ)))
  refine j_iload_n rfl 1 rfl E dX9_at_0 ?_
  refine j_if_lt (tgt := 16) E dX9_at_1 (by decide) ?_ ?_
  · refine j_iconst (v := 0) (by decide) E dX9_at_16 ?_
    exact j_iret E R dX9_at_17
  · refine j_iload_n rfl 1 rfl E dX9_at_4 ?_
    refine j_aload_n rfl 0 rfl E dX9_at_5 ?_
    refine j_klen (v := (nI (xkrow w).length)) E hw rfl dX9_at_6 ?_
    refine j_icmp_ge (tgt := 16) E dX9_at_7 (by decide) ?_ ?_
    · refine j_iconst (v := 0) (by decide) E dX9_at_16 ?_
      exact j_iret E R dX9_at_17
    · refine j_aload_n rfl 0 rfl E dX9_at_10 ?_
      refine j_iload_n rfl 1 rfl E dX9_at_11 ?_
      refine j_kald E hw dX9_at_12 ?_
      refine j_goto (tgt := 17) E dX9_at_13 (by decide) ?_
      exact j_iret E R dX9_at_17
def fX1_begin (N : Nat) (σ : XS) (p1 : Int32) : Option XO := xB (fX9_at N σ 7 p1) (fun y1 m2 => xLet (xUp m2 46 1 (if 12 < y1 then 12 else y1)) (fun m4 => xLet (xUp m4 46 2 (-1)) (fun m6 => xLet (xUp m6 46 3 0) (fun m8 => xLet (xUp m8 46 4 0) (fun m10 => some (0, m10))))))
set_option maxRecDepth 100000 in
set_option maxHeartbeats 4000000 in
theorem kX1_begin {N : Nat} {σ : XS} {p1 : Int32} {o : XO} (h : fX1_begin N σ p1 = some o) : CtV yX1_begin cX1_begin 2 none 1 22 (fun Am ad => [.ref (Am 46), .int p1]) σ o := by
  refine ct_void (by decide) (fun _ _ => Nat.le_of_ble_eq_true rfl) (fun X E R => ?_)
  rw [← h]
  show JF X o 2 0 [(0, .ref (xa X 46)), (1, .int p1)] [] σ (xB (fX9_at N σ 7 p1) (fun y1 m2 => xLet (xUp m2 46 1 (if 12 < y1 then 12 else y1)) (fun m4 => xLet (xUp m4 46 2 (-1)) (fun m6 => xLet (xUp m6 46 3 0) (fun m8 => xLet (xUp m8 46 4 0) (fun m10 => some (0, m10)))))))
  refine j_aload_n (pc := 0) rfl 0 rfl E dX1_begin_0 ?_
  refine j_aload_n (pc := 1) rfl 0 rfl E dX1_begin_1 ?_
  refine j_get (pc := 2) E xuX1 rfl s_46 (k := 0) (by decide) q_256 rfl (xflds_ref rfl) dX1_begin_2 ?_
  refine j_get (pc := 5) E xuX8 rfl s_1 (k := 5) (by decide) q_108 rfl (xflds_ref rfl) dX1_begin_5 ?_
  refine j_iload_n (pc := 8) rfl 1 rfl E dX1_begin_8 ?_
  refine JF.xb (fun y1 m2 h3 => ?_)
  refine j_callSiN (pc := 9) (st := [.ref (xa X 46)]) E (kX9_at xr_7 h3) mv_X9_at (by decide +kernel) [.ref (xa X 7), .int p1] rfl rfl rfl (by decide) (Nat.le_of_ble_eq_true rfl) dX1_begin_9 ?_
  refine j_bipush (pc := 12) (v := 12) (by decide) E dX1_begin_12 ?_
  refine j_min (pc := 14) E q_840 q_766 q_74 q_767 (by decide) (Nat.le_of_ble_eq_true rfl) dX1_begin_14 ?_
  refine JF.xlet (fun m4 e5 => ?_)
  refine j_put (pc := 17) E xuX1 tyX1 tyX1_ok nmX1 rfl s_46 rfl (k := 1) (by decide) q_258 rfl rfl (ty := .int) (by decide +kernel) rfl rfl dX1_begin_17 e5 ?_
  refine j_aload_n (pc := 20) rfl 0 rfl E dX1_begin_20 ?_
  refine j_iconst (pc := 21) (v := (-1)) (by decide) E dX1_begin_21 ?_
  refine JF.xlet (fun m6 e7 => ?_)
  refine j_put (pc := 22) E xuX1 tyX1 tyX1_ok nmX1 rfl s_46 rfl (k := 2) (by decide) q_259 rfl rfl (ty := .int) (by decide +kernel) rfl rfl dX1_begin_22 e7 ?_
  refine j_aload_n (pc := 25) rfl 0 rfl E dX1_begin_25 ?_
  refine j_iconst (pc := 26) (v := 0) (by decide) E dX1_begin_26 ?_
  refine JF.xlet (fun m8 e9 => ?_)
  refine j_put (pc := 27) E xuX1 tyX1 tyX1_ok nmX1 rfl s_46 rfl (k := 3) (by decide) q_260 rfl rfl (ty := .boolean) (by decide +kernel) rfl rfl dX1_begin_27 e9 ?_
  refine j_aload_n (pc := 30) rfl 0 rfl E dX1_begin_30 ?_
  refine j_iconst (pc := 31) (v := 0) (by decide) E dX1_begin_31 ?_
  refine JF.xlet (fun m10 e11 => ?_)
  refine j_put (pc := 32) E xuX1 tyX1 tyX1_ok nmX1 rfl s_46 rfl (k := 4) (by decide) q_261 rfl rfl (ty := .boolean) (by decide +kernel) rfl rfl dX1_begin_32 e11 ?_
  exact j_vret (pc := 35) E R dX1_begin_35
def fX8_isDeaf (N : Nat) (σ : XS) (p1 : Int32) : Option XO := xB (fX9_at N σ 9 p1) (fun y1 m2 => if y1 = 2 then some (1, m2) else some (0, m2))
set_option maxRecDepth 100000 in
set_option maxHeartbeats 4000000 in
theorem kX8_isDeaf {N : Nat} {σ : XS} {p1 : Int32} {o : XO} (h : fX8_isDeaf N σ p1 = some o) : CtI yX8_isDeaf cX8_isDeaf 2 (some .boolean) 1 21 (fun Am ad => [.ref (Am 1), .int p1]) σ o := by
  refine ct_z (by decide) (fun _ _ => Nat.le_of_ble_eq_true rfl) (fun X E R => ?_)
  rw [← h]
  show JF X o 2 0 [(0, .ref (xa X 1)), (1, .int p1)] [] σ (xB (fX9_at N σ 9 p1) (fun y1 m2 => if y1 = 2 then some (1, m2) else some (0, m2)))
  refine j_aload_n (pc := 0) rfl 0 rfl E dX8_isDeaf_0 ?_
  refine j_get (pc := 1) E xuX8 rfl s_1 (k := 7) (by decide) q_113 rfl (xflds_ref rfl) dX8_isDeaf_1 ?_
  refine j_iload_n (pc := 4) rfl 1 rfl E dX8_isDeaf_4 ?_
  refine JF.xb (fun y1 m2 h3 => ?_)
  refine j_callSiN (pc := 5) (st := []) E (kX9_at xr_9 h3) mv_X9_at (by decide +kernel) [.ref (xa X 9), .int p1] rfl rfl rfl (by decide) (Nat.le_of_ble_eq_true rfl) dX8_isDeaf_5 ?_
  refine j_iconst (pc := 8) (v := 2) (by decide) E dX8_isDeaf_8 ?_
  refine j_icmp_ne (pc := 9) (tgt := 16) E dX8_isDeaf_9 (by decide) ?_ ?_
  · refine j_iconst (pc := 12) (v := 1) (by decide) E dX8_isDeaf_12 ?_
    refine j_goto (pc := 13) (tgt := 17) E dX8_isDeaf_13 (by decide) ?_
    exact j_zret (pc := 17) E R rfl dX8_isDeaf_17
  · refine j_iconst (pc := 16) (v := 0) (by decide) E dX8_isDeaf_16 ?_
    exact j_zret (pc := 17) E R rfl dX8_isDeaf_17
def fX8_rhymeOfPort (N : Nat) (σ : XS) (p1 : Int32) : Option XO := xB (fX9_at N σ 6 p1) (fun y1 m2 => some (y1, m2))
set_option maxRecDepth 100000 in
set_option maxHeartbeats 4000000 in
theorem kX8_rhymeOfPort {N : Nat} {σ : XS} {p1 : Int32} {o : XO} (h : fX8_rhymeOfPort N σ p1 = some o) : CtI yX8_rhymeOfPort cX8_rhymeOfPort 2 (some .int) 1 21 (fun Am ad => [.ref (Am 1), .int p1]) σ o := by
  refine ct_int (by decide) (fun _ _ => Nat.le_of_ble_eq_true rfl) (fun X E R => ?_)
  rw [← h]
  show JF X o 2 0 [(0, .ref (xa X 1)), (1, .int p1)] [] σ (xB (fX9_at N σ 6 p1) (fun y1 m2 => some (y1, m2)))
  refine j_aload_n (pc := 0) rfl 0 rfl E dX8_rhymeOfPort_0 ?_
  refine j_get (pc := 1) E xuX8 rfl s_1 (k := 4) (by decide) q_105 rfl (xflds_ref rfl) dX8_rhymeOfPort_1 ?_
  refine j_iload_n (pc := 4) rfl 1 rfl E dX8_rhymeOfPort_4 ?_
  refine JF.xb (fun y1 m2 h3 => ?_)
  refine j_callSiN (pc := 5) (st := []) E (kX9_at xr_6 h3) mv_X9_at (by decide +kernel) [.ref (xa X 6), .int p1] rfl rfl rfl (by decide) (Nat.le_of_ble_eq_true rfl) dX8_rhymeOfPort_5 ?_
  exact j_iret (pc := 8) E R dX8_rhymeOfPort_8
def fX8_slurs (N : Nat) (σ : XS) (p1 : Int32) : Option XO := xB (fX9_at N σ 9 p1) (fun y1 m2 => if y1 = 1 then some (1, m2) else some (0, m2))
set_option maxRecDepth 100000 in
set_option maxHeartbeats 4000000 in
theorem kX8_slurs {N : Nat} {σ : XS} {p1 : Int32} {o : XO} (h : fX8_slurs N σ p1 = some o) : CtI yX8_slurs cX8_slurs 2 (some .boolean) 1 21 (fun Am ad => [.ref (Am 1), .int p1]) σ o := by
  refine ct_z (by decide) (fun _ _ => Nat.le_of_ble_eq_true rfl) (fun X E R => ?_)
  rw [← h]
  show JF X o 2 0 [(0, .ref (xa X 1)), (1, .int p1)] [] σ (xB (fX9_at N σ 9 p1) (fun y1 m2 => if y1 = 1 then some (1, m2) else some (0, m2)))
  refine j_aload_n (pc := 0) rfl 0 rfl E dX8_slurs_0 ?_
  refine j_get (pc := 1) E xuX8 rfl s_1 (k := 7) (by decide) q_113 rfl (xflds_ref rfl) dX8_slurs_1 ?_
  refine j_iload_n (pc := 4) rfl 1 rfl E dX8_slurs_4 ?_
  refine JF.xb (fun y1 m2 h3 => ?_)
  refine j_callSiN (pc := 5) (st := []) E (kX9_at xr_9 h3) mv_X9_at (by decide +kernel) [.ref (xa X 9), .int p1] rfl rfl rfl (by decide) (Nat.le_of_ble_eq_true rfl) dX8_slurs_5 ?_
  refine j_iconst (pc := 8) (v := 1) (by decide) E dX8_slurs_8 ?_
  refine j_icmp_ne (pc := 9) (tgt := 16) E dX8_slurs_9 (by decide) ?_ ?_
  · refine j_iconst (pc := 12) (v := 1) (by decide) E dX8_slurs_12 ?_
    refine j_goto (pc := 13) (tgt := 17) E dX8_slurs_13 (by decide) ?_
    exact j_zret (pc := 17) E R rfl dX8_slurs_17
  · refine j_iconst (pc := 16) (v := 0) (by decide) E dX8_slurs_16 ?_
    exact j_zret (pc := 17) E R rfl dX8_slurs_17
def fX1_hear_J24 (N : Nat) (v1 : Int32) (v2 : Int32) (σ : XS) : Option XO := xB (fX8_isDeaf N σ v2) (fun y6 m7 => if y6 = 0 then xB (fX9_at N m7 8 v1) (fun y9 m10 => xB (fX8_rhymeOfPort N m10 y9) (fun y12 m13 => xLet (xUp m13 46 2 y12) (fun m15 => some (0, m15)))) else some (0, m7))
set_option maxRecDepth 100000 in
set_option maxHeartbeats 4000000 in
theorem lX1_hear_J24 (N : Nat) (v1 : Int32) (v2 : Int32) {X : XC} {o : XO} (E : XE X cX1_hear RX1 3 2 42) (R : XV X o cX1_hear) (σ : XS) : JF X o 3 24 [(0, .ref (xa X 46)), (1, .int v1), (2, .int v2)] [] σ (fX1_hear_J24 N v1 v2 σ) := by
  show JF X o 3 24 [(0, .ref (xa X 46)), (1, .int v1), (2, .int v2)] [] σ (xB (fX8_isDeaf N σ v2) (fun y6 m7 => if y6 = 0 then xB (fX9_at N m7 8 v1) (fun y9 m10 => xB (fX8_rhymeOfPort N m10 y9) (fun y12 m13 => xLet (xUp m13 46 2 y12) (fun m15 => some (0, m15)))) else some (0, m7)))
  refine j_aload_n (pc := 24) rfl 0 rfl E dX1_hear_24 ?_
  refine j_get (pc := 25) E xuX1 rfl s_46 (k := 0) (by decide) q_256 rfl (xflds_ref rfl) dX1_hear_25 ?_
  refine j_iload_n (pc := 28) rfl 2 rfl E dX1_hear_28 ?_
  refine JF.xb (fun y6 m7 h8 => ?_)
  refine j_callVi (pc := 29) (st := []) E (kX8_isDeaf h8) mv_X8_isDeaf rfl s_1 q_846 [.int v2] rfl rfl rfl (by decide) (Nat.le_of_ble_eq_true rfl) dX1_hear_29 ?_
  refine j_if_ne (pc := 32) (tgt := 57) E dX1_hear_32 (by decide) ?_ ?_
  · refine j_aload_n (pc := 35) rfl 0 rfl E dX1_hear_35 ?_
    refine j_aload_n (pc := 36) rfl 0 rfl E dX1_hear_36 ?_
    refine j_get (pc := 37) E xuX1 rfl s_46 (k := 0) (by decide) q_256 rfl (xflds_ref rfl) dX1_hear_37 ?_
    refine j_aload_n (pc := 40) rfl 0 rfl E dX1_hear_40 ?_
    refine j_get (pc := 41) E xuX1 rfl s_46 (k := 0) (by decide) q_256 rfl (xflds_ref rfl) dX1_hear_41 ?_
    refine j_get (pc := 44) E xuX8 rfl s_1 (k := 6) (by decide) q_111 rfl (xflds_ref rfl) dX1_hear_44 ?_
    refine j_iload_n (pc := 47) rfl 1 rfl E dX1_hear_47 ?_
    refine JF.xb (fun y9 m10 h11 => ?_)
    refine j_callSiN (pc := 48) (st := [.ref (xa X 1), .ref (xa X 46)]) E (kX9_at xr_8 h11) mv_X9_at (by decide +kernel) [.ref (xa X 8), .int v1] rfl rfl rfl (by decide) (Nat.le_of_ble_eq_true rfl) dX1_hear_48 ?_
    refine JF.xb (fun y12 m13 h14 => ?_)
    refine j_callVi (pc := 51) (st := [.ref (xa X 46)]) E (kX8_rhymeOfPort h14) mv_X8_rhymeOfPort rfl s_1 q_847 [.int y9] rfl rfl rfl (by decide) (Nat.le_of_ble_eq_true rfl) dX1_hear_51 ?_
    refine JF.xlet (fun m15 e16 => ?_)
    refine j_put (pc := 54) E xuX1 tyX1 tyX1_ok nmX1 rfl s_46 rfl (k := 2) (by decide) q_259 rfl rfl (ty := .int) (by decide +kernel) rfl rfl dX1_hear_54 e16 ?_
    exact j_vret (pc := 57) E R dX1_hear_57
  · exact j_vret (pc := 57) E R dX1_hear_57
def fX1_hear (N : Nat) (σ : XS) (p1 : Int32) (p2 : Int32) : Option XO := xB (fX8_slurs N σ p2) (fun y1 m2 => if y1 = 0 then xLet (xUp m2 46 4 1) (fun m4 => fX1_hear_J24 N p1 p2 m4) else xLet (xUp m2 46 3 1) (fun m17 => fX1_hear_J24 N p1 p2 m17))
set_option maxRecDepth 100000 in
set_option maxHeartbeats 4000000 in
theorem kX1_hear {N : Nat} {σ : XS} {p1 : Int32} {p2 : Int32} {o : XO} (h : fX1_hear N σ p1 p2 = some o) : CtV yX1_hear cX1_hear 3 none 2 42 (fun Am ad => [.ref (Am 46), .int p1, .int p2]) σ o := by
  refine ct_void (by decide) (fun _ _ => Nat.le_of_ble_eq_true rfl) (fun X E R => ?_)
  rw [← h]
  show JF X o 3 0 [(0, .ref (xa X 46)), (1, .int p1), (2, .int p2)] [] σ (xB (fX8_slurs N σ p2) (fun y1 m2 => if y1 = 0 then xLet (xUp m2 46 4 1) (fun m4 => fX1_hear_J24 N p1 p2 m4) else xLet (xUp m2 46 3 1) (fun m17 => fX1_hear_J24 N p1 p2 m17)))
  refine j_aload_n (pc := 0) rfl 0 rfl E dX1_hear_0 ?_
  refine j_get (pc := 1) E xuX1 rfl s_46 (k := 0) (by decide) q_256 rfl (xflds_ref rfl) dX1_hear_1 ?_
  refine j_iload_n (pc := 4) rfl 2 rfl E dX1_hear_4 ?_
  refine JF.xb (fun y1 m2 h3 => ?_)
  refine j_callVi (pc := 5) (st := []) E (kX8_slurs h3) mv_X8_slurs rfl s_1 q_845 [.int p2] rfl rfl rfl (by decide) (Nat.le_of_ble_eq_true rfl) dX1_hear_5 ?_
  refine j_if_eq (pc := 8) (tgt := 19) E dX1_hear_8 (by decide) ?_ ?_
  · refine j_aload_n (pc := 19) rfl 0 rfl E dX1_hear_19 ?_
    refine j_iconst (pc := 20) (v := 1) (by decide) E dX1_hear_20 ?_
    refine JF.xlet (fun m4 e5 => ?_)
    refine j_put (pc := 21) E xuX1 tyX1 tyX1_ok nmX1 rfl s_46 rfl (k := 4) (by decide) q_261 rfl rfl (ty := .boolean) (by decide +kernel) rfl rfl dX1_hear_21 e5 ?_
    refine JF.sub [0, 1, 2] rfl ?_
    exact lX1_hear_J24 N p1 p2 E R m4
  · refine j_aload_n (pc := 11) rfl 0 rfl E dX1_hear_11 ?_
    refine j_iconst (pc := 12) (v := 1) (by decide) E dX1_hear_12 ?_
    refine JF.xlet (fun m17 e18 => ?_)
    refine j_put (pc := 13) E xuX1 tyX1 tyX1_ok nmX1 rfl s_46 rfl (k := 3) (by decide) q_260 rfl rfl (ty := .boolean) (by decide +kernel) rfl rfl dX1_hear_13 e18 ?_
    refine j_goto (pc := 16) (tgt := 24) E dX1_hear_16 (by decide) ?_
    refine JF.sub [0, 1, 2] rfl ?_
    exact lX1_hear_J24 N p1 p2 E R m17
def fX1_ask (N : Nat) (σ : XS) (p1 : Int32) (p2 : Int32) : Option XO := xB (fX1_begin N σ p1) (fun _ m2 => xB (fX1_hear N m2 p1 p2) (fun _ m5 => some (0, m5)))
set_option maxRecDepth 100000 in
set_option maxHeartbeats 4000000 in
theorem kX1_ask {N : Nat} {σ : XS} {p1 : Int32} {p2 : Int32} {o : XO} (h : fX1_ask N σ p1 p2 = some o) : CtV yX1_ask cX1_ask 3 none 3 64 (fun Am ad => [.ref (Am 46), .int p1, .int p2]) σ o := by
  refine ct_void (by decide) (fun _ _ => Nat.le_of_ble_eq_true rfl) (fun X E R => ?_)
  rw [← h]
  show JF X o 3 0 [(0, .ref (xa X 46)), (1, .int p1), (2, .int p2)] [] σ (xB (fX1_begin N σ p1) (fun _ m2 => xB (fX1_hear N m2 p1 p2) (fun _ m5 => some (0, m5))))
  refine j_aload_n (pc := 0) rfl 0 rfl E dX1_ask_0 ?_
  refine j_iload_n (pc := 1) rfl 1 rfl E dX1_ask_1 ?_
  refine JF.xb (fun y1 m2 h3 => ?_)
  refine j_callVv (pc := 2) (st := []) E (kX1_begin h3) mv_X1_begin rfl s_46 q_835 [.int p1] rfl rfl rfl (by decide) (Nat.le_of_ble_eq_true rfl) dX1_ask_2 ?_
  refine j_aload_n (pc := 5) rfl 0 rfl E dX1_ask_5 ?_
  refine j_iload_n (pc := 6) rfl 1 rfl E dX1_ask_6 ?_
  refine j_iload_n (pc := 7) rfl 2 rfl E dX1_ask_7 ?_
  refine JF.xb (fun y4 m5 h6 => ?_)
  refine j_callVv (pc := 8) (st := []) E (kX1_hear h6) mv_X1_hear rfl s_46 q_841 [.int p1, .int p2] rfl rfl rfl (by decide) (Nat.le_of_ble_eq_true rfl) dX1_ask_8 ?_
  exact j_vret (pc := 11) E R dX1_ask_11
def fX1_askForAll_L7 (N : Nat) (v1 : Int32) (k30 : XS → Option XO) : Nat → Int32 → XS → Option XO
  | 0, _, _ => none
  | n + 1, v2, σ => if (σ 1 11) ≤ v2 then k30 σ else xB (fX1_hear N σ v1 v2) (fun _ m5 => fX1_askForAll_L7 N v1 k30 n (v2 + 1) m5)
set_option maxRecDepth 100000 in
set_option maxHeartbeats 4000000 in
theorem lX1_askForAll_L7 (N : Nat) (v1 : Int32) (k30 : XS → Option XO) {X : XC} {o : XO} (E : XE X cX1_askForAll RX1 3 3 64) (R : XV X o cX1_askForAll) (K30 : ∀ (σ : XS), JF X o 3 30 [] [] σ (k30 σ)) : ∀ (n : Nat) (v2 : Int32) (σ : XS), JF X o 3 7 [(0, .ref (xa X 46)), (1, .int v1), (2, .int v2)] [] σ (fX1_askForAll_L7 N v1 k30 n v2 σ) := by
  intro n
  induction n with
  | zero => intro v2 σ; exact JF.none
  | succ n ih =>
    intro v2 σ
    show JF X o 3 7 [(0, .ref (xa X 46)), (1, .int v1), (2, .int v2)] [] σ (if (σ 1 11) ≤ v2 then k30 σ else xB (fX1_hear N σ v1 v2) (fun _ m5 => fX1_askForAll_L7 N v1 k30 n (v2 + 1) m5))
    refine j_iload_n (pc := 7) rfl 2 rfl E dX1_askForAll_7 ?_
    refine j_aload_n (pc := 8) rfl 0 rfl E dX1_askForAll_8 ?_
    refine j_get (pc := 9) E xuX1 rfl s_46 (k := 0) (by decide) q_256 rfl (xflds_ref rfl) dX1_askForAll_9 ?_
    refine j_get (pc := 12) E xuX8 rfl s_1 (k := 11) (by decide) q_129 rfl (xflds_int rfl) dX1_askForAll_12 ?_
    refine j_icmp_ge (pc := 15) (tgt := 30) E dX1_askForAll_15 (by decide) ?_ ?_
    · refine JF.sub [] rfl ?_
      exact K30  σ
    · refine j_aload_n (pc := 18) rfl 0 rfl E dX1_askForAll_18 ?_
      refine j_iload_n (pc := 19) rfl 1 rfl E dX1_askForAll_19 ?_
      refine j_iload_n (pc := 20) rfl 2 rfl E dX1_askForAll_20 ?_
      refine JF.xb (fun y4 m5 h6 => ?_)
      refine j_callVv (pc := 21) (st := []) E (kX1_hear h6) mv_X1_hear rfl s_46 q_841 [.int v1, .int v2] rfl rfl rfl (by decide) (Nat.le_of_ble_eq_true rfl) dX1_askForAll_21 ?_
      refine j_iinc (pc := 24) (v := (v2 + 1)) (lv1 := [(2, .int (v2 + 1)), (0, .ref (xa X 46)), (1, .int v1)]) E dX1_askForAll_24 2 rfl rfl (by decide) rfl ?_
      refine j_goto (pc := 27) (tgt := 7) E dX1_askForAll_27 (by decide) ?_
      refine JF.sub [1, 2, 0] rfl ?_
      exact ih (v2 + 1) m5
def fX1_askForAll (N : Nat) (σ : XS) (p1 : Int32) : Option XO := xB (fX1_begin N σ p1) (fun _ m2 => fX1_askForAll_L7 N p1 (fun m7 => some (0, m7)) N 0 m2)
set_option maxRecDepth 100000 in
set_option maxHeartbeats 4000000 in
theorem kX1_askForAll {N : Nat} {σ : XS} {p1 : Int32} {o : XO} (h : fX1_askForAll N σ p1 = some o) : CtV yX1_askForAll cX1_askForAll 3 none 3 64 (fun Am ad => [.ref (Am 46), .int p1]) σ o := by
  refine ct_void (by decide) (fun _ _ => Nat.le_of_ble_eq_true rfl) (fun X E R => ?_)
  rw [← h]
  show JF X o 3 0 [(0, .ref (xa X 46)), (1, .int p1)] [] σ (xB (fX1_begin N σ p1) (fun _ m2 => fX1_askForAll_L7 N p1 (fun m7 => some (0, m7)) N 0 m2))
  refine j_aload_n (pc := 0) rfl 0 rfl E dX1_askForAll_0 ?_
  refine j_iload_n (pc := 1) rfl 1 rfl E dX1_askForAll_1 ?_
  refine JF.xb (fun y1 m2 h3 => ?_)
  refine j_callVv (pc := 2) (st := []) E (kX1_begin h3) mv_X1_begin rfl s_46 q_835 [.int p1] rfl rfl rfl (by decide) (Nat.le_of_ble_eq_true rfl) dX1_askForAll_2 ?_
  refine j_iconst (pc := 5) (v := 0) (by decide) E dX1_askForAll_5 ?_
  refine j_istore_n (pc := 6) (lv1 := [(2, .int 0), (0, .ref (xa X 46)), (1, .int p1)]) E dX1_askForAll_6 rfl (by decide) rfl ?_
  refine JF.sub [1, 2, 0] rfl ?_
  refine lX1_askForAll_L7 N p1 _ E R (fun m7 => ?_) N 0 m2
  · exact j_vret (pc := 30) E R dX1_askForAll_30
def fX8_chimes (N : Nat) (σ : XS) (p1 : Int32) (p2 : Int32) : Option XO := xB (fX9_at N σ 2 p1) (fun y1 m2 => if y1 = 2 then some (1, m2) else xB (fX9_at N m2 5 p1) (fun y4 m5 => if y4 = p2 then some (1, m5) else some (0, m5)))
set_option maxRecDepth 100000 in
set_option maxHeartbeats 4000000 in
theorem kX8_chimes {N : Nat} {σ : XS} {p1 : Int32} {p2 : Int32} {o : XO} (h : fX8_chimes N σ p1 p2 = some o) : CtI yX8_chimes cX8_chimes 3 (some .boolean) 1 21 (fun Am ad => [.ref (Am 1), .int p1, .int p2]) σ o := by
  refine ct_z (by decide) (fun _ _ => Nat.le_of_ble_eq_true rfl) (fun X E R => ?_)
  rw [← h]
  show JF X o 3 0 [(0, .ref (xa X 1)), (1, .int p1), (2, .int p2)] [] σ (xB (fX9_at N σ 2 p1) (fun y1 m2 => if y1 = 2 then some (1, m2) else xB (fX9_at N m2 5 p1) (fun y4 m5 => if y4 = p2 then some (1, m5) else some (0, m5))))
  refine j_aload_n (pc := 0) rfl 0 rfl E dX8_chimes_0 ?_
  refine j_get (pc := 1) E xuX8 rfl s_1 (k := 0) (by decide) q_92 rfl (xflds_ref rfl) dX8_chimes_1 ?_
  refine j_iload_n (pc := 4) rfl 1 rfl E dX8_chimes_4 ?_
  refine JF.xb (fun y1 m2 h3 => ?_)
  refine j_callSiN (pc := 5) (st := []) E (kX9_at xr_2 h3) mv_X9_at (by decide +kernel) [.ref (xa X 2), .int p1] rfl rfl rfl (by decide) (Nat.le_of_ble_eq_true rfl) dX8_chimes_5 ?_
  refine j_iconst (pc := 8) (v := 2) (by decide) E dX8_chimes_8 ?_
  refine j_icmp_eq (pc := 9) (tgt := 24) E dX8_chimes_9 (by decide) ?_ ?_
  · refine j_iconst (pc := 24) (v := 1) (by decide) E dX8_chimes_24 ?_
    refine j_goto (pc := 25) (tgt := 29) E dX8_chimes_25 (by decide) ?_
    exact j_zret (pc := 29) E R rfl dX8_chimes_29
  · refine j_aload_n (pc := 12) rfl 0 rfl E dX8_chimes_12 ?_
    refine j_get (pc := 13) E xuX8 rfl s_1 (k := 3) (by decide) q_103 rfl (xflds_ref rfl) dX8_chimes_13 ?_
    refine j_iload_n (pc := 16) rfl 1 rfl E dX8_chimes_16 ?_
    refine JF.xb (fun y4 m5 h6 => ?_)
    refine j_callSiN (pc := 17) (st := []) E (kX9_at xr_5 h6) mv_X9_at (by decide +kernel) [.ref (xa X 5), .int p1] rfl rfl rfl (by decide) (Nat.le_of_ble_eq_true rfl) dX8_chimes_17 ?_
    refine j_iload_n (pc := 20) rfl 2 rfl E dX8_chimes_20 ?_
    refine j_icmp_ne (pc := 21) (tgt := 28) E dX8_chimes_21 (by decide) ?_ ?_
    · refine j_iconst (pc := 24) (v := 1) (by decide) E dX8_chimes_24 ?_
      refine j_goto (pc := 25) (tgt := 29) E dX8_chimes_25 (by decide) ?_
      exact j_zret (pc := 29) E R rfl dX8_chimes_29
    · refine j_iconst (pc := 28) (v := 0) (by decide) E dX8_chimes_28 ?_
      exact j_zret (pc := 29) E R rfl dX8_chimes_29
def fX8_fits_J42 (N : Nat) (v1 : Int32) (v2 : Int32) (t0 : Int32) (σ : XS) : Option XO := gd (xin v1 9) (if ((v2 + (σ 4 v1.toNatClampNeg)) &&& 1) = t0 then some (1, σ) else some (0, σ))
set_option maxRecDepth 100000 in
set_option maxHeartbeats 4000000 in
theorem lX8_fits_J42 (N : Nat) (v1 : Int32) (v2 : Int32) (t0 : Int32) {X : XC} {o : XO} (E : XE X cX8_fits RX8 4 0 0) (R : XZ X o cX8_fits .boolean) (σ : XS) : JF X o 4 42 [(0, .ref (xa X 1)), (1, .int v1), (2, .int v2)] [.int t0] σ (fX8_fits_J42 N v1 v2 t0 σ) := by
  show JF X o 4 42 [(0, .ref (xa X 1)), (1, .int v1), (2, .int v2)] [.int t0] σ (gd (xin v1 9) (if ((v2 + (σ 4 v1.toNatClampNeg)) &&& 1) = t0 then some (1, σ) else some (0, σ)))
  refine j_istore_n (pc := 42) (lv1 := [(3, .int t0), (0, .ref (xa X 1)), (1, .int v1), (2, .int v2)]) E dX8_fits_42 rfl (by decide) rfl ?_
  refine j_iload_n (pc := 43) rfl 3 rfl E dX8_fits_43 ?_
  refine j_aload_n (pc := 44) rfl 1 rfl E dX8_fits_44 ?_
  refine j_get (pc := 45) E xuX8 rfl s_1 (k := 2) (by decide) q_101 rfl (xflds_ref rfl) dX8_fits_45 ?_
  refine j_iload_n (pc := 48) rfl 2 rfl E dX8_fits_48 ?_
  refine j_iald (pc := 49) E s_4 dX8_fits_49 ?_
  refine j_iadd (pc := 50) E dX8_fits_50 ?_
  refine j_iconst (pc := 51) (v := 1) (by decide) E dX8_fits_51 ?_
  refine j_iand (pc := 52) E dX8_fits_52 ?_
  refine j_iload_n (pc := 53) rfl 0 rfl E dX8_fits_53 ?_
  refine j_icmp_ne (pc := 54) (tgt := 61) E dX8_fits_54 (by decide) ?_ ?_
  · refine j_iconst (pc := 57) (v := 1) (by decide) E dX8_fits_57 ?_
    refine j_goto (pc := 58) (tgt := 62) E dX8_fits_58 (by decide) ?_
    exact j_zret (pc := 62) E R rfl dX8_fits_62
  · refine j_iconst (pc := 61) (v := 0) (by decide) E dX8_fits_61 ?_
    exact j_zret (pc := 62) E R rfl dX8_fits_62
def fX8_fits (N : Nat) (σ : XS) (p1 : Int32) (p2 : Int32) : Option XO := if (σ 1 12) = 0 then some (1, σ) else if p1 < 0 then some (1, σ) else if 9 ≤ p1 then some (1, σ) else gd (xin p1 9) (if (σ 2 p1.toNatClampNeg) = 3 then some (1, σ) else if (σ 1 12) = 1 then fX8_fits_J42 N p1 p2 0 σ else fX8_fits_J42 N p1 p2 1 σ)
set_option maxRecDepth 100000 in
set_option maxHeartbeats 4000000 in
theorem kX8_fits {N : Nat} {σ : XS} {p1 : Int32} {p2 : Int32} {o : XO} (h : fX8_fits N σ p1 p2 = some o) : CtI yX8_fits cX8_fits 4 (some .boolean) 0 0 (fun Am ad => [.ref (Am 1), .int p1, .int p2]) σ o := by
  refine ct_z (by decide) (fun _ _ => Nat.le_of_ble_eq_true rfl) (fun X E R => ?_)
  rw [← h]
  show JF X o 4 0 [(0, .ref (xa X 1)), (1, .int p1), (2, .int p2)] [] σ (if (σ 1 12) = 0 then some (1, σ) else if p1 < 0 then some (1, σ) else if 9 ≤ p1 then some (1, σ) else gd (xin p1 9) (if (σ 2 p1.toNatClampNeg) = 3 then some (1, σ) else if (σ 1 12) = 1 then fX8_fits_J42 N p1 p2 0 σ else fX8_fits_J42 N p1 p2 1 σ))
  refine j_aload_n (pc := 0) rfl 0 rfl E dX8_fits_0 ?_
  refine j_get (pc := 1) E xuX8 rfl s_1 (k := 12) (by decide) q_132 rfl (xflds_int rfl) dX8_fits_1 ?_
  refine j_if_eq (pc := 4) (tgt := 27) E dX8_fits_4 (by decide) ?_ ?_
  · refine j_iconst (pc := 27) (v := 1) (by decide) E dX8_fits_27 ?_
    exact j_zret (pc := 28) E R rfl dX8_fits_28
  · refine j_iload_n (pc := 7) rfl 1 rfl E dX8_fits_7 ?_
    refine j_if_lt (pc := 8) (tgt := 27) E dX8_fits_8 (by decide) ?_ ?_
    · refine j_iconst (pc := 27) (v := 1) (by decide) E dX8_fits_27 ?_
      exact j_zret (pc := 28) E R rfl dX8_fits_28
    · refine j_iload_n (pc := 11) rfl 1 rfl E dX8_fits_11 ?_
      refine j_bipush (pc := 12) (v := 9) (by decide) E dX8_fits_12 ?_
      refine j_icmp_ge (pc := 14) (tgt := 27) E dX8_fits_14 (by decide) ?_ ?_
      · refine j_iconst (pc := 27) (v := 1) (by decide) E dX8_fits_27 ?_
        exact j_zret (pc := 28) E R rfl dX8_fits_28
      · refine j_aload_n (pc := 17) rfl 0 rfl E dX8_fits_17 ?_
        refine j_get (pc := 18) E xuX8 rfl s_1 (k := 0) (by decide) q_92 rfl (xflds_ref rfl) dX8_fits_18 ?_
        refine j_iload_n (pc := 21) rfl 1 rfl E dX8_fits_21 ?_
        refine j_iald (pc := 22) E s_2 dX8_fits_22 ?_
        refine j_iconst (pc := 23) (v := 3) (by decide) E dX8_fits_23 ?_
        refine j_icmp_ne (pc := 24) (tgt := 29) E dX8_fits_24 (by decide) ?_ ?_
        · refine j_iconst (pc := 27) (v := 1) (by decide) E dX8_fits_27 ?_
          exact j_zret (pc := 28) E R rfl dX8_fits_28
        · refine j_aload_n (pc := 29) rfl 0 rfl E dX8_fits_29 ?_
          refine j_get (pc := 30) E xuX8 rfl s_1 (k := 12) (by decide) q_132 rfl (xflds_int rfl) dX8_fits_30 ?_
          refine j_iconst (pc := 33) (v := 1) (by decide) E dX8_fits_33 ?_
          refine j_icmp_ne (pc := 34) (tgt := 41) E dX8_fits_34 (by decide) ?_ ?_
          · refine j_iconst (pc := 37) (v := 0) (by decide) E dX8_fits_37 ?_
            refine j_goto (pc := 38) (tgt := 42) E dX8_fits_38 (by decide) ?_
            refine JF.sub [0, 1, 2] rfl ?_
            exact lX8_fits_J42 N p1 p2 0 E R σ
          · refine j_iconst (pc := 41) (v := 1) (by decide) E dX8_fits_41 ?_
            refine JF.sub [0, 1, 2] rfl ?_
            exact lX8_fits_J42 N p1 p2 1 E R σ
def fX1_allows (N : Nat) (σ : XS) (p1 : Int32) (p2 : Int32) (p3 : Int32) : Option XO := xB (fX8_fits N σ p1 p2) (fun y1 m2 => if y1 = 0 then some (0, m2) else if p3 = 0 then if (m2 46 3) = 0 then some (1, m2) else if (m2 46 4) = 0 then some (1, m2) else xB (fX9_at N m2 2 p1) (fun y4 m5 => if y4 = 1 then some (0, m5) else some (1, m5)) else if (m2 46 2) = (-1) then some (1, m2) else xB (fX8_chimes N m2 p1 (m2 46 2)) (fun y7 m8 => if y7 = 0 then some (0, m8) else some (1, m8)))
set_option maxRecDepth 100000 in
set_option maxHeartbeats 4000000 in
theorem kX1_allows {N : Nat} {σ : XS} {p1 : Int32} {p2 : Int32} {p3 : Int32} {o : XO} (h : fX1_allows N σ p1 p2 p3 = some o) : CtI yX1_allows cX1_allows 4 (some .boolean) 2 43 (fun Am ad => [.ref (Am 46), .int p1, .int p2, .int p3]) σ o := by
  refine ct_z (by decide) (fun _ _ => Nat.le_of_ble_eq_true rfl) (fun X E R => ?_)
  rw [← h]
  show JF X o 4 0 [(0, .ref (xa X 46)), (1, .int p1), (2, .int p2), (3, .int p3)] [] σ (xB (fX8_fits N σ p1 p2) (fun y1 m2 => if y1 = 0 then some (0, m2) else if p3 = 0 then if (m2 46 3) = 0 then some (1, m2) else if (m2 46 4) = 0 then some (1, m2) else xB (fX9_at N m2 2 p1) (fun y4 m5 => if y4 = 1 then some (0, m5) else some (1, m5)) else if (m2 46 2) = (-1) then some (1, m2) else xB (fX8_chimes N m2 p1 (m2 46 2)) (fun y7 m8 => if y7 = 0 then some (0, m8) else some (1, m8))))
  refine j_aload_n (pc := 0) rfl 0 rfl E dX1_allows_0 ?_
  refine j_get (pc := 1) E xuX1 rfl s_46 (k := 0) (by decide) q_256 rfl (xflds_ref rfl) dX1_allows_1 ?_
  refine j_iload_n (pc := 4) rfl 1 rfl E dX1_allows_4 ?_
  refine j_iload_n (pc := 5) rfl 2 rfl E dX1_allows_5 ?_
  refine JF.xb (fun y1 m2 h3 => ?_)
  refine j_callVi (pc := 6) (st := []) E (kX8_fits h3) mv_X8_fits rfl s_1 q_873 [.int p1, .int p2] rfl rfl rfl (by decide) (Nat.le_of_ble_eq_true rfl) dX1_allows_6 ?_
  refine j_if_ne (pc := 9) (tgt := 14) E dX1_allows_9 (by decide) ?_ ?_
  · refine j_iconst (pc := 12) (v := 0) (by decide) E dX1_allows_12 ?_
    exact j_zret (pc := 13) E R rfl dX1_allows_13
  · refine j_iload_n (pc := 14) rfl 3 rfl E dX1_allows_14 ?_
    refine j_if_eq (pc := 15) (tgt := 47) E dX1_allows_15 (by decide) ?_ ?_
    · refine j_aload_n (pc := 47) rfl 0 rfl E dX1_allows_47 ?_
      refine j_get (pc := 48) E xuX1 rfl s_46 (k := 3) (by decide) q_260 rfl (xflds_int rfl) dX1_allows_48 ?_
      refine j_if_eq (pc := 51) (tgt := 76) E dX1_allows_51 (by decide) ?_ ?_
      · refine j_iconst (pc := 76) (v := 1) (by decide) E dX1_allows_76 ?_
        refine j_goto (pc := 77) (tgt := 81) E dX1_allows_77 (by decide) ?_
        exact j_zret (pc := 81) E R rfl dX1_allows_81
      · refine j_aload_n (pc := 54) rfl 0 rfl E dX1_allows_54 ?_
        refine j_get (pc := 55) E xuX1 rfl s_46 (k := 4) (by decide) q_261 rfl (xflds_int rfl) dX1_allows_55 ?_
        refine j_if_eq (pc := 58) (tgt := 76) E dX1_allows_58 (by decide) ?_ ?_
        · refine j_iconst (pc := 76) (v := 1) (by decide) E dX1_allows_76 ?_
          refine j_goto (pc := 77) (tgt := 81) E dX1_allows_77 (by decide) ?_
          exact j_zret (pc := 81) E R rfl dX1_allows_81
        · refine j_aload_n (pc := 61) rfl 0 rfl E dX1_allows_61 ?_
          refine j_get (pc := 62) E xuX1 rfl s_46 (k := 0) (by decide) q_256 rfl (xflds_ref rfl) dX1_allows_62 ?_
          refine j_get (pc := 65) E xuX8 rfl s_1 (k := 0) (by decide) q_95 rfl (xflds_ref rfl) dX1_allows_65 ?_
          refine j_iload_n (pc := 68) rfl 1 rfl E dX1_allows_68 ?_
          refine JF.xb (fun y4 m5 h6 => ?_)
          refine j_callSiN (pc := 69) (st := []) E (kX9_at xr_2 h6) mv_X9_at (by decide +kernel) [.ref (xa X 2), .int p1] rfl rfl rfl (by decide) (Nat.le_of_ble_eq_true rfl) dX1_allows_69 ?_
          refine j_iconst (pc := 72) (v := 1) (by decide) E dX1_allows_72 ?_
          refine j_icmp_eq (pc := 73) (tgt := 80) E dX1_allows_73 (by decide) ?_ ?_
          · refine j_iconst (pc := 80) (v := 0) (by decide) E dX1_allows_80 ?_
            exact j_zret (pc := 81) E R rfl dX1_allows_81
          · refine j_iconst (pc := 76) (v := 1) (by decide) E dX1_allows_76 ?_
            refine j_goto (pc := 77) (tgt := 81) E dX1_allows_77 (by decide) ?_
            exact j_zret (pc := 81) E R rfl dX1_allows_81
    · refine j_aload_n (pc := 18) rfl 0 rfl E dX1_allows_18 ?_
      refine j_get (pc := 19) E xuX1 rfl s_46 (k := 2) (by decide) q_259 rfl (xflds_int rfl) dX1_allows_19 ?_
      refine j_iconst (pc := 22) (v := (-1)) (by decide) E dX1_allows_22 ?_
      refine j_icmp_eq (pc := 23) (tgt := 41) E dX1_allows_23 (by decide) ?_ ?_
      · refine j_iconst (pc := 41) (v := 1) (by decide) E dX1_allows_41 ?_
        refine j_goto (pc := 42) (tgt := 46) E dX1_allows_42 (by decide) ?_
        exact j_zret (pc := 46) E R rfl dX1_allows_46
      · refine j_aload_n (pc := 26) rfl 0 rfl E dX1_allows_26 ?_
        refine j_get (pc := 27) E xuX1 rfl s_46 (k := 0) (by decide) q_256 rfl (xflds_ref rfl) dX1_allows_27 ?_
        refine j_iload_n (pc := 30) rfl 1 rfl E dX1_allows_30 ?_
        refine j_aload_n (pc := 31) rfl 0 rfl E dX1_allows_31 ?_
        refine j_get (pc := 32) E xuX1 rfl s_46 (k := 2) (by decide) q_259 rfl (xflds_int rfl) dX1_allows_32 ?_
        refine JF.xb (fun y7 m8 h9 => ?_)
        refine j_callVi (pc := 35) (st := []) E (kX8_chimes h9) mv_X8_chimes rfl s_1 q_874 [.int p1, .int (m2 46 2)] rfl rfl rfl (by decide) (Nat.le_of_ble_eq_true rfl) dX1_allows_35 ?_
        refine j_if_eq (pc := 38) (tgt := 45) E dX1_allows_38 (by decide) ?_ ?_
        · refine j_iconst (pc := 45) (v := 0) (by decide) E dX1_allows_45 ?_
          exact j_zret (pc := 46) E R rfl dX1_allows_46
        · refine j_iconst (pc := 41) (v := 1) (by decide) E dX1_allows_41 ?_
          refine j_goto (pc := 42) (tgt := 46) E dX1_allows_42 (by decide) ?_
          exact j_zret (pc := 46) E R rfl dX1_allows_46
def fX1_countOf (N : Nat) (σ : XS) (p1 : Int32) (p2 : Int32) : Option XO := xB (fX9_at N σ 3 p1) (fun y1 m2 => if (m2 46 3) = 0 then some (y1, m2) else if p2 = 0 then xB (fX9_at N m2 2 p1) (fun y4 m5 => if y4 = 1 then some ((y1 - 1), m5) else some (y1, m5)) else some (y1, m2))
set_option maxRecDepth 100000 in
set_option maxHeartbeats 4000000 in
theorem kX1_countOf {N : Nat} {σ : XS} {p1 : Int32} {p2 : Int32} {o : XO} (h : fX1_countOf N σ p1 p2 = some o) : CtI yX1_countOf cX1_countOf 4 (some .int) 1 21 (fun Am ad => [.ref (Am 46), .int p1, .int p2]) σ o := by
  refine ct_int (by decide) (fun _ _ => Nat.le_of_ble_eq_true rfl) (fun X E R => ?_)
  rw [← h]
  show JF X o 4 0 [(0, .ref (xa X 46)), (1, .int p1), (2, .int p2)] [] σ (xB (fX9_at N σ 3 p1) (fun y1 m2 => if (m2 46 3) = 0 then some (y1, m2) else if p2 = 0 then xB (fX9_at N m2 2 p1) (fun y4 m5 => if y4 = 1 then some ((y1 - 1), m5) else some (y1, m5)) else some (y1, m2)))
  refine j_aload_n (pc := 0) rfl 0 rfl E dX1_countOf_0 ?_
  refine j_get (pc := 1) E xuX1 rfl s_46 (k := 0) (by decide) q_256 rfl (xflds_ref rfl) dX1_countOf_1 ?_
  refine j_get (pc := 4) E xuX8 rfl s_1 (k := 1) (by decide) q_100 rfl (xflds_ref rfl) dX1_countOf_4 ?_
  refine j_iload_n (pc := 7) rfl 1 rfl E dX1_countOf_7 ?_
  refine JF.xb (fun y1 m2 h3 => ?_)
  refine j_callSiN (pc := 8) (st := []) E (kX9_at xr_3 h3) mv_X9_at (by decide +kernel) [.ref (xa X 3), .int p1] rfl rfl rfl (by decide) (Nat.le_of_ble_eq_true rfl) dX1_countOf_8 ?_
  refine j_istore_n (pc := 11) (lv1 := [(3, .int y1), (0, .ref (xa X 46)), (1, .int p1), (2, .int p2)]) E dX1_countOf_11 rfl (by decide) rfl ?_
  refine j_aload_n (pc := 12) rfl 1 rfl E dX1_countOf_12 ?_
  refine j_get (pc := 13) E xuX1 rfl s_46 (k := 3) (by decide) q_260 rfl (xflds_int rfl) dX1_countOf_13 ?_
  refine j_if_eq (pc := 16) (tgt := 44) E dX1_countOf_16 (by decide) ?_ ?_
  · refine j_iload_n (pc := 44) rfl 0 rfl E dX1_countOf_44 ?_
    exact j_iret (pc := 45) E R dX1_countOf_45
  · refine j_iload_n (pc := 19) rfl 3 rfl E dX1_countOf_19 ?_
    refine j_if_ne (pc := 20) (tgt := 44) E dX1_countOf_20 (by decide) ?_ ?_
    · refine j_aload_n (pc := 23) rfl 1 rfl E dX1_countOf_23 ?_
      refine j_get (pc := 24) E xuX1 rfl s_46 (k := 0) (by decide) q_256 rfl (xflds_ref rfl) dX1_countOf_24 ?_
      refine j_get (pc := 27) E xuX8 rfl s_1 (k := 0) (by decide) q_95 rfl (xflds_ref rfl) dX1_countOf_27 ?_
      refine j_iload_n (pc := 30) rfl 2 rfl E dX1_countOf_30 ?_
      refine JF.xb (fun y4 m5 h6 => ?_)
      refine j_callSiN (pc := 31) (st := []) E (kX9_at xr_2 h6) mv_X9_at (by decide +kernel) [.ref (xa X 2), .int p1] rfl rfl rfl (by decide) (Nat.le_of_ble_eq_true rfl) dX1_countOf_31 ?_
      refine j_iconst (pc := 34) (v := 1) (by decide) E dX1_countOf_34 ?_
      refine j_icmp_ne (pc := 35) (tgt := 44) E dX1_countOf_35 (by decide) ?_ ?_
      · refine j_iload_n (pc := 38) rfl 0 rfl E dX1_countOf_38 ?_
        refine j_iconst (pc := 39) (v := 1) (by decide) E dX1_countOf_39 ?_
        refine j_isub (pc := 40) E dX1_countOf_40 ?_
        refine j_goto (pc := 41) (tgt := 45) E dX1_countOf_41 (by decide) ?_
        exact j_iret (pc := 45) E R dX1_countOf_45
      · refine j_iload_n (pc := 44) rfl 0 rfl E dX1_countOf_44 ?_
        exact j_iret (pc := 45) E R dX1_countOf_45
    · refine j_iload_n (pc := 44) rfl 0 rfl E dX1_countOf_44 ?_
      exact j_iret (pc := 45) E R dX1_countOf_45
def fX2_begin_L27 (N : Nat) (k62 : XS → Option XO) : Nat → Int32 → XS → Option XO
  | 0, _, _ => none
  | n + 1, v2, σ => if 2 ≤ v2 then k62 σ else gd (xin 0 7) (xLet (xUp σ (49 + (0 : Int32).toNatClampNeg) (v2 * 13).toNatClampNeg 0) (fun m13 => gd (xin (v2 * 13) 26) (gd (xin 0 7) (xLet (xUp m13 (57 + (0 : Int32).toNatClampNeg) (v2 * 13).toNatClampNeg 1) (fun m17 => gd (xin (v2 * 13) 26) (fX2_begin_L27 N k62 n (v2 + 1) m17))))))
set_option maxRecDepth 100000 in
set_option maxHeartbeats 4000000 in
theorem lX2_begin_L27 (N : Nat) (k62 : XS → Option XO) {X : XC} {o : XO} (E : XE X cX2_begin RX2 3 1 23) (R : XV X o cX2_begin) (K62 : ∀ (σ : XS), JF X o 3 62 [] [] σ (k62 σ)) : ∀ (n : Nat) (v2 : Int32) (σ : XS), JF X o 3 27 [(0, .ref (xa X 47)), (2, .int v2)] [] σ (fX2_begin_L27 N k62 n v2 σ) := by
  intro n
  induction n with
  | zero => intro v2 σ; exact JF.none
  | succ n ih =>
    intro v2 σ
    show JF X o 3 27 [(0, .ref (xa X 47)), (2, .int v2)] [] σ (if 2 ≤ v2 then k62 σ else gd (xin 0 7) (xLet (xUp σ (49 + (0 : Int32).toNatClampNeg) (v2 * 13).toNatClampNeg 0) (fun m13 => gd (xin (v2 * 13) 26) (gd (xin 0 7) (xLet (xUp m13 (57 + (0 : Int32).toNatClampNeg) (v2 * 13).toNatClampNeg 1) (fun m17 => gd (xin (v2 * 13) 26) (fX2_begin_L27 N k62 n (v2 + 1) m17)))))))
    refine j_iload_n (pc := 27) rfl 1 rfl E dX2_begin_27 ?_
    refine j_iconst (pc := 28) (v := 2) (by decide) E dX2_begin_28 ?_
    refine j_icmp_ge (pc := 29) (tgt := 62) E dX2_begin_29 (by decide) ?_ ?_
    · refine JF.sub [] rfl ?_
      exact K62  σ
    · refine j_aload_n (pc := 32) rfl 0 rfl E dX2_begin_32 ?_
      refine j_get (pc := 33) E xuX2 rfl s_47 (k := 3) (by decide) q_285 rfl (xflds_ref rfl) dX2_begin_33 ?_
      refine j_iconst (pc := 36) (v := 0) (by decide) E dX2_begin_36 ?_
      refine j_aald (pc := 37) (b := 49) E s_48 (by decide) dX2_begin_37 (fun g12 => ?_)
      refine j_iload_n (pc := 38) rfl 1 rfl E dX2_begin_38 ?_
      refine j_bipush (pc := 39) (v := 13) (by decide) E dX2_begin_39 ?_
      refine j_imul (pc := 41) E dX2_begin_41 ?_
      refine j_iconst (pc := 42) (v := 0) (by decide) E dX2_begin_42 ?_
      refine JF.xlet (fun m13 e14 => ?_)
      refine j_iast (pc := 43) E (xg_49 _ (xin_lt g12)) dX2_begin_43 e14 ?_
      refine j_aload_n (pc := 44) rfl 0 rfl E dX2_begin_44 ?_
      refine j_get (pc := 45) E xuX2 rfl s_47 (k := 4) (by decide) q_286 rfl (xflds_ref rfl) dX2_begin_45 ?_
      refine j_iconst (pc := 48) (v := 0) (by decide) E dX2_begin_48 ?_
      refine j_aald (pc := 49) (b := 57) E s_56 (by decide) dX2_begin_49 (fun g16 => ?_)
      refine j_iload_n (pc := 50) rfl 1 rfl E dX2_begin_50 ?_
      refine j_bipush (pc := 51) (v := 13) (by decide) E dX2_begin_51 ?_
      refine j_imul (pc := 53) E dX2_begin_53 ?_
      refine j_iconst (pc := 54) (v := 1) (by decide) E dX2_begin_54 ?_
      refine JF.xlet (fun m17 e18 => ?_)
      refine j_iast (pc := 55) E (xg_57 _ (xin_lt g16)) dX2_begin_55 e18 ?_
      refine j_iinc (pc := 56) (v := (v2 + 1)) (lv1 := [(2, .int (v2 + 1)), (0, .ref (xa X 47))]) E dX2_begin_56 1 rfl rfl (by decide) rfl ?_
      refine j_goto (pc := 59) (tgt := 27) E dX2_begin_59 (by decide) ?_
      refine JF.sub [1, 0] rfl ?_
      exact ih (v2 + 1) m17
def fX2_begin (N : Nat) (σ : XS) (p1 : Int32) : Option XO := gd (decide (p1 = 0) || decide (p1 = 1)) (xLet (xUp σ 47 5 p1) (fun m1 => gd (xin 0 7) (xB (fJ7_fill_53178 N m1 (49 + (0 : Int32).toNatClampNeg) (-1)) (fun _ m6 => gd (xin 0 7) (xB (fJ7_fill_53178 N m6 (57 + (0 : Int32).toNatClampNeg) 0) (fun _ m10 => fX2_begin_L27 N (fun m20 => some (0, m20)) N 0 m10))))))
set_option maxRecDepth 100000 in
set_option maxHeartbeats 4000000 in
theorem kX2_begin {N : Nat} {σ : XS} {p1 : Int32} {o : XO} (h : fX2_begin N σ p1 = some o) : CtV yX2_begin cX2_begin 3 none 1 23 (fun Am ad => [.ref (Am 47), .int p1]) σ o := by
  refine ct_void (by decide) (fun _ _ => Nat.le_of_ble_eq_true rfl) (fun X E R => ?_)
  rw [← h]
  show JF X o 3 0 [(0, .ref (xa X 47)), (1, .int p1)] [] σ (gd (decide (p1 = 0) || decide (p1 = 1)) (xLet (xUp σ 47 5 p1) (fun m1 => gd (xin 0 7) (xB (fJ7_fill_53178 N m1 (49 + (0 : Int32).toNatClampNeg) (-1)) (fun _ m6 => gd (xin 0 7) (xB (fJ7_fill_53178 N m6 (57 + (0 : Int32).toNatClampNeg) 0) (fun _ m10 => fX2_begin_L27 N (fun m20 => some (0, m20)) N 0 m10)))))))
  refine j_aload_n (pc := 0) rfl 0 rfl E dX2_begin_0 ?_
  refine j_iload_n (pc := 1) rfl 1 rfl E dX2_begin_1 ?_
  refine JF.gd (fun g3 => ?_)
  refine JF.xlet (fun m1 e2 => ?_)
  refine j_put (pc := 2) E xuX2 tyX2 tyX2_ok nmX2 rfl s_47 rfl (k := 5) (by decide) q_287 rfl rfl (ty := .boolean) (by decide +kernel) (x01 g3) (x01f g3) dX2_begin_2 e2 ?_
  refine j_aload_n (pc := 5) rfl 0 rfl E dX2_begin_5 ?_
  refine j_get (pc := 6) E xuX2 rfl s_47 (k := 3) (by decide) q_285 rfl (xflds_ref rfl) dX2_begin_6 ?_
  refine j_iconst (pc := 9) (v := 0) (by decide) E dX2_begin_9 ?_
  refine j_aald (pc := 10) (b := 49) E s_48 (by decide) dX2_begin_10 (fun g4 => ?_)
  refine j_iconst (pc := 11) (v := (-1)) (by decide) E dX2_begin_11 ?_
  refine JF.xb (fun y5 m6 h7 => ?_)
  refine j_callSv (pc := 12) (st := []) E (kJ7_fill_53178 (xrg (xg_49 _ (xin_lt g4))) h7) mv_J7_fill_53178 q_860 [.ref (xa X (49 + (0 : Int32).toNatClampNeg)), .int (-1)] rfl rfl rfl (by decide) (Nat.le_of_ble_eq_true rfl) dX2_begin_12 ?_
  refine j_aload_n (pc := 15) rfl 0 rfl E dX2_begin_15 ?_
  refine j_get (pc := 16) E xuX2 rfl s_47 (k := 4) (by decide) q_286 rfl (xflds_ref rfl) dX2_begin_16 ?_
  refine j_iconst (pc := 19) (v := 0) (by decide) E dX2_begin_19 ?_
  refine j_aald (pc := 20) (b := 57) E s_56 (by decide) dX2_begin_20 (fun g8 => ?_)
  refine j_iconst (pc := 21) (v := 0) (by decide) E dX2_begin_21 ?_
  refine JF.xb (fun y9 m10 h11 => ?_)
  refine j_callSv (pc := 22) (st := []) E (kJ7_fill_53178 (xrg (xg_57 _ (xin_lt g8))) h11) mv_J7_fill_53178 q_860 [.ref (xa X (57 + (0 : Int32).toNatClampNeg)), .int 0] rfl rfl rfl (by decide) (Nat.le_of_ble_eq_true rfl) dX2_begin_22 ?_
  refine j_iconst (pc := 25) (v := 0) (by decide) E dX2_begin_25 ?_
  refine j_istore_n (pc := 26) (lv1 := [(2, .int 0), (0, .ref (xa X 47)), (1, .int p1)]) E dX2_begin_26 rfl (by decide) rfl ?_
  refine JF.sub [1, 0] rfl ?_
  refine lX2_begin_L27 N _ E R (fun m20 => ?_) N 0 m10
  · exact j_vret (pc := 62) E R dX2_begin_62
def fX2_isPlace (N : Nat) (σ : XS) (p1 : Int32) (p2 : Int32) : Option XO := if p1 < 0 then some (0, σ) else if 6 < p1 then some (0, σ) else if p2 < 0 then some (0, σ) else if 13 ≤ p2 then some (0, σ) else some (1, σ)
set_option maxRecDepth 100000 in
set_option maxHeartbeats 4000000 in
theorem kX2_isPlace {N : Nat} {σ : XS} {p1 : Int32} {p2 : Int32} {o : XO} (h : fX2_isPlace N σ p1 p2 = some o) : CtI yX2_isPlace cX2_isPlace 2 (some .boolean) 0 0 (fun Am ad => [.int p1, .int p2]) σ o := by
  refine ct_z (by decide) (fun _ _ => Nat.le_of_ble_eq_true rfl) (fun X E R => ?_)
  rw [← h]
  show JF X o 2 0 [(0, .int p1), (1, .int p2)] [] σ (if p1 < 0 then some (0, σ) else if 6 < p1 then some (0, σ) else if p2 < 0 then some (0, σ) else if 13 ≤ p2 then some (0, σ) else some (1, σ))
  refine j_iload_n (pc := 0) rfl 0 rfl E dX2_isPlace_0 ?_
  refine j_if_lt (pc := 1) (tgt := 24) E dX2_isPlace_1 (by decide) ?_ ?_
  · refine j_iconst (pc := 24) (v := 0) (by decide) E dX2_isPlace_24 ?_
    exact j_zret (pc := 25) E R rfl dX2_isPlace_25
  · refine j_iload_n (pc := 4) rfl 0 rfl E dX2_isPlace_4 ?_
    refine j_bipush (pc := 5) (v := 6) (by decide) E dX2_isPlace_5 ?_
    refine j_icmp_gt (pc := 7) (tgt := 24) E dX2_isPlace_7 (by decide) ?_ ?_
    · refine j_iconst (pc := 24) (v := 0) (by decide) E dX2_isPlace_24 ?_
      exact j_zret (pc := 25) E R rfl dX2_isPlace_25
    · refine j_iload_n (pc := 10) rfl 1 rfl E dX2_isPlace_10 ?_
      refine j_if_lt (pc := 11) (tgt := 24) E dX2_isPlace_11 (by decide) ?_ ?_
      · refine j_iconst (pc := 24) (v := 0) (by decide) E dX2_isPlace_24 ?_
        exact j_zret (pc := 25) E R rfl dX2_isPlace_25
      · refine j_iload_n (pc := 14) rfl 1 rfl E dX2_isPlace_14 ?_
        refine j_bipush (pc := 15) (v := 13) (by decide) E dX2_isPlace_15 ?_
        refine j_icmp_ge (pc := 17) (tgt := 24) E dX2_isPlace_17 (by decide) ?_ ?_
        · refine j_iconst (pc := 24) (v := 0) (by decide) E dX2_isPlace_24 ?_
          exact j_zret (pc := 25) E R rfl dX2_isPlace_25
        · refine j_iconst (pc := 20) (v := 1) (by decide) E dX2_isPlace_20 ?_
          refine j_goto (pc := 21) (tgt := 25) E dX2_isPlace_21 (by decide) ?_
          exact j_zret (pc := 25) E R rfl dX2_isPlace_25
