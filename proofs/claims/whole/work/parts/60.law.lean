section LAW
variable {X : XC} {o : XO} {cc : ByteArray} {own : String} {nL fr lo : Nat} {pc : Nat} {lv : List (Nat × Value)} {st : List Value} {σ : XS} {T : Option XO}
/-- the script in the law's own frame -/
def xScr (X : XC) (b L : Nat) (xs : Nat → Int32) : Prop := match X with
  | (_, _, _, _, s, _, _, _, _, _, _, A0, _, _, _) => va_X b L xs s s.heap ∧ b < s.heap.size ∧ ¬ A0 b
theorem jl_slen {b L : Nat} {xs : Nat → Int32} (E : XE X cc own nL fr lo) (hX : xScr X b L xs) (d : decode cc pc = .ok (.arraylength, 1)) (K : JF X o nL (pc + 1) lv (.int (nI L) :: st) σ T) : JF X o nL pc lv (.ref b :: st) σ T := by
  obtain ⟨p, l, e, R, s, m, args, below, meth, c, ⟨D, Am, cy, z, ad⟩, A0, Q, cells, slots⟩ := X
  obtain ⟨hx, hb, hml, hown, hts, hK, hA, hAz, hz, hG, hfr, hlo, hcl, hsl⟩ := E
  obtain ⟨g1, g2, g3⟩ := hX
  intro hT H locs ls hl hH
  exact va_slen hx hb g1 g2 g3 hH.2.2 d (K hT H locs ls hl hH)
theorem jl_sld {b L : Nat} {xs : Nat → Int32} {i : Int32} (E : XE X cc own nL fr lo) (hX : xScr X b L xs) (hi : vp_in i L) (d : decode cc pc = .ok (.iaload, 1)) (K : JF X o nL (pc + 1) lv (.int (xs i.toNatClampNeg) :: st) σ T) : JF X o nL pc lv (.int i :: .ref b :: st) σ T := by
  obtain ⟨p, l, e, R, s, m, args, below, meth, c, ⟨D, Am, cy, z, ad⟩, A0, Q, cells, slots⟩ := X
  obtain ⟨hx, hb, hml, hown, hts, hK, hA, hAz, hz, hG, hfr, hlo, hcl, hsl⟩ := E
  obtain ⟨g1, g2, g3⟩ := hX
  intro hT H locs ls hl hH
  exact va_sld hx hb g1 g2 g3 hH.2.2 hi d (K hT H locs ls hl hH)
theorem jl_eq {x : Int32} {off : Int} {tgt : Nat} (E : XE X cc own nL fr lo) (d : decode cc pc = .ok (.if_icmp .eq off, 3)) (ht : (pc : Int) + off = (tgt : Int)) (K : JF X o nL tgt lv st σ T) : JF X o nL pc lv (.int x :: .int x :: st) σ T := by
  obtain ⟨p, l, e, R, s, m, args, below, meth, c, ⟨D, Am, cy, z, ad⟩, A0, Q, cells, slots⟩ := X
  obtain ⟨hx, hb, hml, hown, hts, hK, hA, hAz, hz, hG, hfr, hlo, hcl, hsl⟩ := E
  intro hT H locs ls hl hH
  exact lv_icmp_eq hx hb d ht (fun _ => K hT H locs ls hl hH) (fun q => absurd rfl q)
theorem jl_gt {x y : Int32} {off : Int} {tgt : Nat} (E : XE X cc own nL fr lo) (d : decode cc pc = .ok (.if_icmp .gt off, 3)) (ht : (pc : Int) + off = (tgt : Int)) (K1 : y < x → JF X o nL tgt lv st σ T) (K2 : ¬ y < x → JF X o nL (pc + 3) lv st σ T) : JF X o nL pc lv (.int y :: .int x :: st) σ T := by
  obtain ⟨p, l, e, R, s, m, args, below, meth, c, ⟨D, Am, cy, z, ad⟩, A0, Q, cells, slots⟩ := X
  obtain ⟨hx, hb, hml, hown, hts, hK, hA, hAz, hz, hG, hfr, hlo, hcl, hsl⟩ := E
  intro hT H locs ls hl hH
  exact lv_icmp_gt hx hb d ht (fun q => K1 q hT H locs ls hl hH) (fun q => K2 q hT H locs ls hl hH)
end LAW
theorem xvin {i L k : Nat} {v : Int32} (hi : i + 5 ≤ L) (hL : L ≤ 2560) (hk : k < 5) (hv : v = nI k) : vp_in (nI i + v) L := by
  rw [hv, nI_add]
  exact vp_in_nI (by omega) (by omega)

/-- call 0: X9_write -/
def Sim0 (N : Nat) (R : XS → Prop) : Prop := ∀ (σ : XS) (a0 : Int32), R σ → ∃ (r : Int32) (σ1 σ2 : XS), fX9_write N σ a0 = some (r, σ1) ∧ fX10_write N σ1 a0 = some (r, σ2) ∧ R σ2
set_option maxRecDepth 100000 in
set_option maxHeartbeats 4000000 in
theorem law_0 {N : Nat} {R : XS → Prop} {X : XC} {o : XO} {b L i : Nat} {xs : Nat → Int32} (E : XE X cL_law RL 4 12 436) (hX : xScr X b L xs) (hi : i + 5 ≤ L) (hL : L ≤ 2560) (KB : ∀ σ : XS, R σ → JF X o 4 1140 [(0, .ref b), (1, .ref (xa X 0)), (2, .ref (xa X 85)), (3, .int (nI i))] [] σ (some o)) (S : Sim0 N R) (σ : XS) (hR : R σ) : JF X o 4 192 [(0, .ref b), (1, .ref (xa X 0)), (2, .ref (xa X 85)), (3, .int (nI i))] [] σ (some o) := by
  obtain ⟨r, σ1, σ2, h1, h2, h3⟩ := S σ (xs (nI i + 1).toNatClampNeg) hR
  refine j_aload_n (pc := 192) rfl 1 rfl E dL_law_192 ?_
  refine j_aload_n (pc := 193) rfl 0 rfl E dL_law_193 ?_
  refine j_iload_n (pc := 194) rfl 3 rfl E dL_law_194 ?_
  refine j_iconst (pc := 195) (v := 1) (by decide) E dL_law_195 ?_
  refine j_iadd (pc := 196) E dL_law_196 ?_
  refine jl_sld (pc := 197) E hX (xvin hi hL (k := 1) (by decide) rfl) dL_law_197 ?_
  refine j_callVi (pc := 198) (st := []) E (kX9_write h1) mv_X9_write rfl s_0 (xq 420 (by decide +kernel) (by decide +kernel)) [.int (xs (nI i + 1).toNatClampNeg)] rfl rfl rfl (by decide) (Nat.le_of_ble_eq_true rfl) dL_law_198 ?_
  refine j_aload_n (pc := 201) rfl 2 rfl E dL_law_201 ?_
  refine j_aload_n (pc := 202) rfl 0 rfl E dL_law_202 ?_
  refine j_iload_n (pc := 203) rfl 3 rfl E dL_law_203 ?_
  refine j_iconst (pc := 204) (v := 1) (by decide) E dL_law_204 ?_
  refine j_iadd (pc := 205) E dL_law_205 ?_
  refine jl_sld (pc := 206) E hX (xvin hi hL (k := 1) (by decide) rfl) dL_law_206 ?_
  refine j_callVi (pc := 207) (st := [.int r]) E (kX10_write h2) mv_X10_write rfl s_85 (xq 1164 (by decide +kernel) (by decide +kernel)) [.int (xs (nI i + 1).toNatClampNeg)] rfl rfl rfl (by decide) (Nat.le_of_ble_eq_true rfl) dL_law_207 ?_
  exact jl_eq (pc := 210) (tgt := 1140) E dL_law_210 (by decide) (KB _ h3)
/-- call 1: X9_erase -/
def Sim1 (N : Nat) (R : XS → Prop) : Prop := ∀ (σ : XS), R σ → ∃ (r : Int32) (σ1 σ2 : XS), fX9_erase N σ = some (r, σ1) ∧ fX10_erase N σ1 = some (r, σ2) ∧ R σ2
set_option maxRecDepth 100000 in
set_option maxHeartbeats 4000000 in
theorem law_1 {N : Nat} {R : XS → Prop} {X : XC} {o : XO} {b L i : Nat} {xs : Nat → Int32} (E : XE X cL_law RL 4 12 436) (hX : xScr X b L xs) (hi : i + 5 ≤ L) (hL : L ≤ 2560) (KB : ∀ σ : XS, R σ → JF X o 4 1140 [(0, .ref b), (1, .ref (xa X 0)), (2, .ref (xa X 85)), (3, .int (nI i))] [] σ (some o)) (S : Sim1 N R) (σ : XS) (hR : R σ) : JF X o 4 215 [(0, .ref b), (1, .ref (xa X 0)), (2, .ref (xa X 85)), (3, .int (nI i))] [] σ (some o) := by
  obtain ⟨r, σ1, σ2, h1, h2, h3⟩ := S σ hR
  refine j_aload_n (pc := 215) rfl 1 rfl E dL_law_215 ?_
  refine j_callVi (pc := 216) (st := []) E (kX9_erase h1) mv_X9_erase rfl s_0 (xq 428 (by decide +kernel) (by decide +kernel)) [] rfl rfl rfl (by decide) (Nat.le_of_ble_eq_true rfl) dL_law_216 ?_
  refine j_aload_n (pc := 219) rfl 2 rfl E dL_law_219 ?_
  refine j_callVi (pc := 220) (st := [.int r]) E (kX10_erase h2) mv_X10_erase rfl s_85 (xq 1169 (by decide +kernel) (by decide +kernel)) [] rfl rfl rfl (by decide) (Nat.le_of_ble_eq_true rfl) dL_law_220 ?_
  exact jl_eq (pc := 223) (tgt := 1140) E dL_law_223 (by decide) (KB _ h3)
/-- call 2: X9_fault -/
def Sim2 (N : Nat) (R : XS → Prop) : Prop := ∀ (σ : XS), R σ → ∃ (r : Int32) (σ1 σ2 : XS), fX9_fault N σ = some (r, σ1) ∧ fX10_fault N σ1 = some (r, σ2) ∧ R σ2
set_option maxRecDepth 100000 in
set_option maxHeartbeats 4000000 in
theorem law_2 {N : Nat} {R : XS → Prop} {X : XC} {o : XO} {b L i : Nat} {xs : Nat → Int32} (E : XE X cL_law RL 4 12 436) (hX : xScr X b L xs) (hi : i + 5 ≤ L) (hL : L ≤ 2560) (KB : ∀ σ : XS, R σ → JF X o 4 1140 [(0, .ref b), (1, .ref (xa X 0)), (2, .ref (xa X 85)), (3, .int (nI i))] [] σ (some o)) (S : Sim2 N R) (σ : XS) (hR : R σ) : JF X o 4 228 [(0, .ref b), (1, .ref (xa X 0)), (2, .ref (xa X 85)), (3, .int (nI i))] [] σ (some o) := by
  obtain ⟨r, σ1, σ2, h1, h2, h3⟩ := S σ hR
  refine j_aload_n (pc := 228) rfl 1 rfl E dL_law_228 ?_
  refine j_callVi (pc := 229) (st := []) E (kX9_fault h1) mv_X9_fault rfl s_0 (xq 436 (by decide +kernel) (by decide +kernel)) [] rfl rfl rfl (by decide) (Nat.le_of_ble_eq_true rfl) dL_law_229 ?_
  refine j_aload_n (pc := 232) rfl 2 rfl E dL_law_232 ?_
  refine j_callVi (pc := 233) (st := [.int r]) E (kX10_fault h2) mv_X10_fault rfl s_85 (xq 1173 (by decide +kernel) (by decide +kernel)) [] rfl rfl rfl (by decide) (Nat.le_of_ble_eq_true rfl) dL_law_233 ?_
  exact jl_eq (pc := 236) (tgt := 1140) E dL_law_236 (by decide) (KB _ h3)
/-- call 3: X9_customs -/
def Sim3 (N : Nat) (R : XS → Prop) : Prop := ∀ (σ : XS), R σ → ∃ (r : Int32) (σ1 σ2 : XS), fX9_customs N σ = some (r, σ1) ∧ fX10_customs N σ1 = some (r, σ2) ∧ R σ2
set_option maxRecDepth 100000 in
set_option maxHeartbeats 4000000 in
theorem law_3 {N : Nat} {R : XS → Prop} {X : XC} {o : XO} {b L i : Nat} {xs : Nat → Int32} (E : XE X cL_law RL 4 12 436) (hX : xScr X b L xs) (hi : i + 5 ≤ L) (hL : L ≤ 2560) (KB : ∀ σ : XS, R σ → JF X o 4 1140 [(0, .ref b), (1, .ref (xa X 0)), (2, .ref (xa X 85)), (3, .int (nI i))] [] σ (some o)) (S : Sim3 N R) (σ : XS) (hR : R σ) : JF X o 4 241 [(0, .ref b), (1, .ref (xa X 0)), (2, .ref (xa X 85)), (3, .int (nI i))] [] σ (some o) := by
  obtain ⟨r, σ1, σ2, h1, h2, h3⟩ := S σ hR
  refine j_aload_n (pc := 241) rfl 1 rfl E dL_law_241 ?_
  refine j_callVi (pc := 242) (st := []) E (kX9_customs h1) mv_X9_customs rfl s_0 (xq 557 (by decide +kernel) (by decide +kernel)) [] rfl rfl rfl (by decide) (Nat.le_of_ble_eq_true rfl) dL_law_242 ?_
  refine j_aload_n (pc := 245) rfl 2 rfl E dL_law_245 ?_
  refine j_callVi (pc := 246) (st := [.int r]) E (kX10_customs h2) mv_X10_customs rfl s_85 (xq 1221 (by decide +kernel) (by decide +kernel)) [] rfl rfl rfl (by decide) (Nat.le_of_ble_eq_true rfl) dL_law_246 ?_
  exact jl_eq (pc := 249) (tgt := 1140) E dL_law_249 (by decide) (KB _ h3)
/-- call 4: X9_word -/
def Sim4 (N : Nat) (R : XS → Prop) : Prop := ∀ (σ : XS) (a0 a1 : Int32), R σ → ∃ (r : Int32) (σ1 σ2 : XS), fX9_word N σ a0 a1 = some (r, σ1) ∧ fX10_word N σ1 a0 a1 = some (r, σ2) ∧ R σ2
set_option maxRecDepth 100000 in
set_option maxHeartbeats 4000000 in
theorem law_4 {N : Nat} {R : XS → Prop} {X : XC} {o : XO} {b L i : Nat} {xs : Nat → Int32} (E : XE X cL_law RL 4 12 436) (hX : xScr X b L xs) (hi : i + 5 ≤ L) (hL : L ≤ 2560) (KB : ∀ σ : XS, R σ → JF X o 4 1140 [(0, .ref b), (1, .ref (xa X 0)), (2, .ref (xa X 85)), (3, .int (nI i))] [] σ (some o)) (S : Sim4 N R) (σ : XS) (hR : R σ) : JF X o 4 254 [(0, .ref b), (1, .ref (xa X 0)), (2, .ref (xa X 85)), (3, .int (nI i))] [] σ (some o) := by
  obtain ⟨r, σ1, σ2, h1, h2, h3⟩ := S σ (xs (nI i + 1).toNatClampNeg) (xs (nI i + 2).toNatClampNeg) hR
  refine j_aload_n (pc := 254) rfl 1 rfl E dL_law_254 ?_
  refine j_aload_n (pc := 255) rfl 0 rfl E dL_law_255 ?_
  refine j_iload_n (pc := 256) rfl 3 rfl E dL_law_256 ?_
  refine j_iconst (pc := 257) (v := 1) (by decide) E dL_law_257 ?_
  refine j_iadd (pc := 258) E dL_law_258 ?_
  refine jl_sld (pc := 259) E hX (xvin hi hL (k := 1) (by decide) rfl) dL_law_259 ?_
  refine j_aload_n (pc := 260) rfl 0 rfl E dL_law_260 ?_
  refine j_iload_n (pc := 261) rfl 3 rfl E dL_law_261 ?_
  refine j_iconst (pc := 262) (v := 2) (by decide) E dL_law_262 ?_
  refine j_iadd (pc := 263) E dL_law_263 ?_
  refine jl_sld (pc := 264) E hX (xvin hi hL (k := 2) (by decide) rfl) dL_law_264 ?_
  refine j_callVi (pc := 265) (st := []) E (kX9_word h1) mv_X9_word rfl s_0 (xq 602 (by decide +kernel) (by decide +kernel)) [.int (xs (nI i + 1).toNatClampNeg), .int (xs (nI i + 2).toNatClampNeg)] rfl rfl rfl (by decide) (Nat.le_of_ble_eq_true rfl) dL_law_265 ?_
  refine j_aload_n (pc := 268) rfl 2 rfl E dL_law_268 ?_
  refine j_aload_n (pc := 269) rfl 0 rfl E dL_law_269 ?_
  refine j_iload_n (pc := 270) rfl 3 rfl E dL_law_270 ?_
  refine j_iconst (pc := 271) (v := 1) (by decide) E dL_law_271 ?_
  refine j_iadd (pc := 272) E dL_law_272 ?_
  refine jl_sld (pc := 273) E hX (xvin hi hL (k := 1) (by decide) rfl) dL_law_273 ?_
  refine j_aload_n (pc := 274) rfl 0 rfl E dL_law_274 ?_
  refine j_iload_n (pc := 275) rfl 3 rfl E dL_law_275 ?_
  refine j_iconst (pc := 276) (v := 2) (by decide) E dL_law_276 ?_
  refine j_iadd (pc := 277) E dL_law_277 ?_
  refine jl_sld (pc := 278) E hX (xvin hi hL (k := 2) (by decide) rfl) dL_law_278 ?_
  refine j_callVi (pc := 279) (st := [.int r]) E (kX10_word h2) mv_X10_word rfl s_85 (xq 1229 (by decide +kernel) (by decide +kernel)) [.int (xs (nI i + 1).toNatClampNeg), .int (xs (nI i + 2).toNatClampNeg)] rfl rfl rfl (by decide) (Nat.le_of_ble_eq_true rfl) dL_law_279 ?_
  exact jl_eq (pc := 282) (tgt := 1140) E dL_law_282 (by decide) (KB _ h3)
/-- call 5: X9_ware -/
def Sim5 (N : Nat) (R : XS → Prop) : Prop := ∀ (σ : XS) (a0 a1 : Int32), R σ → ∃ (r : Int32) (σ1 σ2 : XS), fX9_ware N σ a0 a1 = some (r, σ1) ∧ fX10_ware N σ1 a0 a1 = some (r, σ2) ∧ R σ2
set_option maxRecDepth 100000 in
set_option maxHeartbeats 4000000 in
theorem law_5 {N : Nat} {R : XS → Prop} {X : XC} {o : XO} {b L i : Nat} {xs : Nat → Int32} (E : XE X cL_law RL 4 12 436) (hX : xScr X b L xs) (hi : i + 5 ≤ L) (hL : L ≤ 2560) (KB : ∀ σ : XS, R σ → JF X o 4 1140 [(0, .ref b), (1, .ref (xa X 0)), (2, .ref (xa X 85)), (3, .int (nI i))] [] σ (some o)) (S : Sim5 N R) (σ : XS) (hR : R σ) : JF X o 4 287 [(0, .ref b), (1, .ref (xa X 0)), (2, .ref (xa X 85)), (3, .int (nI i))] [] σ (some o) := by
  obtain ⟨r, σ1, σ2, h1, h2, h3⟩ := S σ (xs (nI i + 1).toNatClampNeg) (xs (nI i + 2).toNatClampNeg) hR
  refine j_aload_n (pc := 287) rfl 1 rfl E dL_law_287 ?_
  refine j_aload_n (pc := 288) rfl 0 rfl E dL_law_288 ?_
  refine j_iload_n (pc := 289) rfl 3 rfl E dL_law_289 ?_
  refine j_iconst (pc := 290) (v := 1) (by decide) E dL_law_290 ?_
  refine j_iadd (pc := 291) E dL_law_291 ?_
  refine jl_sld (pc := 292) E hX (xvin hi hL (k := 1) (by decide) rfl) dL_law_292 ?_
  refine j_aload_n (pc := 293) rfl 0 rfl E dL_law_293 ?_
  refine j_iload_n (pc := 294) rfl 3 rfl E dL_law_294 ?_
  refine j_iconst (pc := 295) (v := 2) (by decide) E dL_law_295 ?_
  refine j_iadd (pc := 296) E dL_law_296 ?_
  refine jl_sld (pc := 297) E hX (xvin hi hL (k := 2) (by decide) rfl) dL_law_297 ?_
  refine j_callVi (pc := 298) (st := []) E (kX9_ware h1) mv_X9_ware rfl s_0 (xq 613 (by decide +kernel) (by decide +kernel)) [.int (xs (nI i + 1).toNatClampNeg), .int (xs (nI i + 2).toNatClampNeg)] rfl rfl rfl (by decide) (Nat.le_of_ble_eq_true rfl) dL_law_298 ?_
  refine j_aload_n (pc := 301) rfl 2 rfl E dL_law_301 ?_
  refine j_aload_n (pc := 302) rfl 0 rfl E dL_law_302 ?_
  refine j_iload_n (pc := 303) rfl 3 rfl E dL_law_303 ?_
  refine j_iconst (pc := 304) (v := 1) (by decide) E dL_law_304 ?_
  refine j_iadd (pc := 305) E dL_law_305 ?_
  refine jl_sld (pc := 306) E hX (xvin hi hL (k := 1) (by decide) rfl) dL_law_306 ?_
  refine j_aload_n (pc := 307) rfl 0 rfl E dL_law_307 ?_
  refine j_iload_n (pc := 308) rfl 3 rfl E dL_law_308 ?_
  refine j_iconst (pc := 309) (v := 2) (by decide) E dL_law_309 ?_
  refine j_iadd (pc := 310) E dL_law_310 ?_
  refine jl_sld (pc := 311) E hX (xvin hi hL (k := 2) (by decide) rfl) dL_law_311 ?_
  refine j_callVi (pc := 312) (st := [.int r]) E (kX10_ware h2) mv_X10_ware rfl s_85 (xq 1238 (by decide +kernel) (by decide +kernel)) [.int (xs (nI i + 1).toNatClampNeg), .int (xs (nI i + 2).toNatClampNeg)] rfl rfl rfl (by decide) (Nat.le_of_ble_eq_true rfl) dL_law_312 ?_
  exact jl_eq (pc := 315) (tgt := 1140) E dL_law_315 (by decide) (KB _ h3)
/-- call 6: X9_clerk -/
def Sim6 (N : Nat) (R : XS → Prop) : Prop := ∀ (σ : XS) (a0 : Int32), R σ → ∃ (r : Int32) (σ1 σ2 : XS), fX9_clerk N σ a0 = some (r, σ1) ∧ fX10_clerk N σ1 a0 = some (r, σ2) ∧ R σ2
set_option maxRecDepth 100000 in
set_option maxHeartbeats 4000000 in
theorem law_6 {N : Nat} {R : XS → Prop} {X : XC} {o : XO} {b L i : Nat} {xs : Nat → Int32} (E : XE X cL_law RL 4 12 436) (hX : xScr X b L xs) (hi : i + 5 ≤ L) (hL : L ≤ 2560) (KB : ∀ σ : XS, R σ → JF X o 4 1140 [(0, .ref b), (1, .ref (xa X 0)), (2, .ref (xa X 85)), (3, .int (nI i))] [] σ (some o)) (S : Sim6 N R) (σ : XS) (hR : R σ) : JF X o 4 320 [(0, .ref b), (1, .ref (xa X 0)), (2, .ref (xa X 85)), (3, .int (nI i))] [] σ (some o) := by
  obtain ⟨r, σ1, σ2, h1, h2, h3⟩ := S σ (xs (nI i + 1).toNatClampNeg) hR
  refine j_aload_n (pc := 320) rfl 1 rfl E dL_law_320 ?_
  refine j_aload_n (pc := 321) rfl 0 rfl E dL_law_321 ?_
  refine j_iload_n (pc := 322) rfl 3 rfl E dL_law_322 ?_
  refine j_iconst (pc := 323) (v := 1) (by decide) E dL_law_323 ?_
  refine j_iadd (pc := 324) E dL_law_324 ?_
  refine jl_sld (pc := 325) E hX (xvin hi hL (k := 1) (by decide) rfl) dL_law_325 ?_
  refine j_callVi (pc := 326) (st := []) E (kX9_clerk h1) mv_X9_clerk rfl s_0 (xq 625 (by decide +kernel) (by decide +kernel)) [.int (xs (nI i + 1).toNatClampNeg)] rfl rfl rfl (by decide) (Nat.le_of_ble_eq_true rfl) dL_law_326 ?_
  refine j_aload_n (pc := 329) rfl 2 rfl E dL_law_329 ?_
  refine j_aload_n (pc := 330) rfl 0 rfl E dL_law_330 ?_
  refine j_iload_n (pc := 331) rfl 3 rfl E dL_law_331 ?_
  refine j_iconst (pc := 332) (v := 1) (by decide) E dL_law_332 ?_
  refine j_iadd (pc := 333) E dL_law_333 ?_
  refine jl_sld (pc := 334) E hX (xvin hi hL (k := 1) (by decide) rfl) dL_law_334 ?_
  refine j_callVi (pc := 335) (st := [.int r]) E (kX10_clerk h2) mv_X10_clerk rfl s_85 (xq 1247 (by decide +kernel) (by decide +kernel)) [.int (xs (nI i + 1).toNatClampNeg)] rfl rfl rfl (by decide) (Nat.le_of_ble_eq_true rfl) dL_law_335 ?_
  exact jl_eq (pc := 338) (tgt := 1140) E dL_law_338 (by decide) (KB _ h3)
/-- call 7: X9_rhyme -/
def Sim7 (N : Nat) (R : XS → Prop) : Prop := ∀ (σ : XS) (a0 a1 : Int32), R σ → ∃ (r : Int32) (σ1 σ2 : XS), fX9_rhyme N σ a0 a1 = some (r, σ1) ∧ fX10_rhyme N σ1 a0 a1 = some (r, σ2) ∧ R σ2
set_option maxRecDepth 100000 in
set_option maxHeartbeats 4000000 in
theorem law_7 {N : Nat} {R : XS → Prop} {X : XC} {o : XO} {b L i : Nat} {xs : Nat → Int32} (E : XE X cL_law RL 4 12 436) (hX : xScr X b L xs) (hi : i + 5 ≤ L) (hL : L ≤ 2560) (KB : ∀ σ : XS, R σ → JF X o 4 1140 [(0, .ref b), (1, .ref (xa X 0)), (2, .ref (xa X 85)), (3, .int (nI i))] [] σ (some o)) (S : Sim7 N R) (σ : XS) (hR : R σ) : JF X o 4 343 [(0, .ref b), (1, .ref (xa X 0)), (2, .ref (xa X 85)), (3, .int (nI i))] [] σ (some o) := by
  obtain ⟨r, σ1, σ2, h1, h2, h3⟩ := S σ (xs (nI i + 1).toNatClampNeg) (xs (nI i + 2).toNatClampNeg) hR
  refine j_aload_n (pc := 343) rfl 1 rfl E dL_law_343 ?_
  refine j_aload_n (pc := 344) rfl 0 rfl E dL_law_344 ?_
  refine j_iload_n (pc := 345) rfl 3 rfl E dL_law_345 ?_
  refine j_iconst (pc := 346) (v := 1) (by decide) E dL_law_346 ?_
  refine j_iadd (pc := 347) E dL_law_347 ?_
  refine jl_sld (pc := 348) E hX (xvin hi hL (k := 1) (by decide) rfl) dL_law_348 ?_
  refine j_aload_n (pc := 349) rfl 0 rfl E dL_law_349 ?_
  refine j_iload_n (pc := 350) rfl 3 rfl E dL_law_350 ?_
  refine j_iconst (pc := 351) (v := 2) (by decide) E dL_law_351 ?_
  refine j_iadd (pc := 352) E dL_law_352 ?_
  refine jl_sld (pc := 353) E hX (xvin hi hL (k := 2) (by decide) rfl) dL_law_353 ?_
  refine j_callVi (pc := 354) (st := []) E (kX9_rhyme h1) mv_X9_rhyme rfl s_0 (xq 633 (by decide +kernel) (by decide +kernel)) [.int (xs (nI i + 1).toNatClampNeg), .int (xs (nI i + 2).toNatClampNeg)] rfl rfl rfl (by decide) (Nat.le_of_ble_eq_true rfl) dL_law_354 ?_
  refine j_aload_n (pc := 357) rfl 2 rfl E dL_law_357 ?_
  refine j_aload_n (pc := 358) rfl 0 rfl E dL_law_358 ?_
  refine j_iload_n (pc := 359) rfl 3 rfl E dL_law_359 ?_
  refine j_iconst (pc := 360) (v := 1) (by decide) E dL_law_360 ?_
  refine j_iadd (pc := 361) E dL_law_361 ?_
  refine jl_sld (pc := 362) E hX (xvin hi hL (k := 1) (by decide) rfl) dL_law_362 ?_
  refine j_aload_n (pc := 363) rfl 0 rfl E dL_law_363 ?_
  refine j_iload_n (pc := 364) rfl 3 rfl E dL_law_364 ?_
  refine j_iconst (pc := 365) (v := 2) (by decide) E dL_law_365 ?_
  refine j_iadd (pc := 366) E dL_law_366 ?_
  refine jl_sld (pc := 367) E hX (xvin hi hL (k := 2) (by decide) rfl) dL_law_367 ?_
  refine j_callVi (pc := 368) (st := [.int r]) E (kX10_rhyme h2) mv_X10_rhyme rfl s_85 (xq 1255 (by decide +kernel) (by decide +kernel)) [.int (xs (nI i + 1).toNatClampNeg), .int (xs (nI i + 2).toNatClampNeg)] rfl rfl rfl (by decide) (Nat.le_of_ble_eq_true rfl) dL_law_368 ?_
  exact jl_eq (pc := 371) (tgt := 1140) E dL_law_371 (by decide) (KB _ h3)
/-- call 8: X9_as -/
def Sim8 (N : Nat) (R : XS → Prop) : Prop := ∀ (σ : XS) (a0 a1 : Int32), R σ → ∃ (r : Int32) (σ1 σ2 : XS), fX9_as N σ a0 a1 = some (r, σ1) ∧ fX10_as N σ1 a0 a1 = some (r, σ2) ∧ R σ2
set_option maxRecDepth 100000 in
set_option maxHeartbeats 4000000 in
theorem law_8 {N : Nat} {R : XS → Prop} {X : XC} {o : XO} {b L i : Nat} {xs : Nat → Int32} (E : XE X cL_law RL 4 12 436) (hX : xScr X b L xs) (hi : i + 5 ≤ L) (hL : L ≤ 2560) (KB : ∀ σ : XS, R σ → JF X o 4 1140 [(0, .ref b), (1, .ref (xa X 0)), (2, .ref (xa X 85)), (3, .int (nI i))] [] σ (some o)) (S : Sim8 N R) (σ : XS) (hR : R σ) : JF X o 4 376 [(0, .ref b), (1, .ref (xa X 0)), (2, .ref (xa X 85)), (3, .int (nI i))] [] σ (some o) := by
  obtain ⟨r, σ1, σ2, h1, h2, h3⟩ := S σ (xs (nI i + 1).toNatClampNeg) (xs (nI i + 2).toNatClampNeg) hR
  refine j_aload_n (pc := 376) rfl 1 rfl E dL_law_376 ?_
  refine j_aload_n (pc := 377) rfl 0 rfl E dL_law_377 ?_
  refine j_iload_n (pc := 378) rfl 3 rfl E dL_law_378 ?_
  refine j_iconst (pc := 379) (v := 1) (by decide) E dL_law_379 ?_
  refine j_iadd (pc := 380) E dL_law_380 ?_
  refine jl_sld (pc := 381) E hX (xvin hi hL (k := 1) (by decide) rfl) dL_law_381 ?_
  refine j_aload_n (pc := 382) rfl 0 rfl E dL_law_382 ?_
  refine j_iload_n (pc := 383) rfl 3 rfl E dL_law_383 ?_
  refine j_iconst (pc := 384) (v := 2) (by decide) E dL_law_384 ?_
  refine j_iadd (pc := 385) E dL_law_385 ?_
  refine jl_sld (pc := 386) E hX (xvin hi hL (k := 2) (by decide) rfl) dL_law_386 ?_
  refine j_callVi (pc := 387) (st := []) E (kX9_as h1) mv_X9_as rfl s_0 (xq 645 (by decide +kernel) (by decide +kernel)) [.int (xs (nI i + 1).toNatClampNeg), .int (xs (nI i + 2).toNatClampNeg)] rfl rfl rfl (by decide) (Nat.le_of_ble_eq_true rfl) dL_law_387 ?_
  refine j_aload_n (pc := 390) rfl 2 rfl E dL_law_390 ?_
  refine j_aload_n (pc := 391) rfl 0 rfl E dL_law_391 ?_
  refine j_iload_n (pc := 392) rfl 3 rfl E dL_law_392 ?_
  refine j_iconst (pc := 393) (v := 1) (by decide) E dL_law_393 ?_
  refine j_iadd (pc := 394) E dL_law_394 ?_
  refine jl_sld (pc := 395) E hX (xvin hi hL (k := 1) (by decide) rfl) dL_law_395 ?_
  refine j_aload_n (pc := 396) rfl 0 rfl E dL_law_396 ?_
  refine j_iload_n (pc := 397) rfl 3 rfl E dL_law_397 ?_
  refine j_iconst (pc := 398) (v := 2) (by decide) E dL_law_398 ?_
  refine j_iadd (pc := 399) E dL_law_399 ?_
  refine jl_sld (pc := 400) E hX (xvin hi hL (k := 2) (by decide) rfl) dL_law_400 ?_
  refine j_callVi (pc := 401) (st := [.int r]) E (kX10_as h2) mv_X10_as rfl s_85 (xq 1264 (by decide +kernel) (by decide +kernel)) [.int (xs (nI i + 1).toNatClampNeg), .int (xs (nI i + 2).toNatClampNeg)] rfl rfl rfl (by decide) (Nat.le_of_ble_eq_true rfl) dL_law_401 ?_
  exact jl_eq (pc := 404) (tgt := 1140) E dL_law_404 (by decide) (KB _ h3)
/-- call 9: X9_clerkAs -/
def Sim9 (N : Nat) (R : XS → Prop) : Prop := ∀ (σ : XS) (a0 a1 : Int32), R σ → ∃ (r : Int32) (σ1 σ2 : XS), fX9_clerkAs N σ a0 a1 = some (r, σ1) ∧ fX10_clerkAs N σ1 a0 a1 = some (r, σ2) ∧ R σ2
set_option maxRecDepth 100000 in
set_option maxHeartbeats 4000000 in
theorem law_9 {N : Nat} {R : XS → Prop} {X : XC} {o : XO} {b L i : Nat} {xs : Nat → Int32} (E : XE X cL_law RL 4 12 436) (hX : xScr X b L xs) (hi : i + 5 ≤ L) (hL : L ≤ 2560) (KB : ∀ σ : XS, R σ → JF X o 4 1140 [(0, .ref b), (1, .ref (xa X 0)), (2, .ref (xa X 85)), (3, .int (nI i))] [] σ (some o)) (S : Sim9 N R) (σ : XS) (hR : R σ) : JF X o 4 409 [(0, .ref b), (1, .ref (xa X 0)), (2, .ref (xa X 85)), (3, .int (nI i))] [] σ (some o) := by
  obtain ⟨r, σ1, σ2, h1, h2, h3⟩ := S σ (xs (nI i + 1).toNatClampNeg) (xs (nI i + 2).toNatClampNeg) hR
  refine j_aload_n (pc := 409) rfl 1 rfl E dL_law_409 ?_
  refine j_aload_n (pc := 410) rfl 0 rfl E dL_law_410 ?_
  refine j_iload_n (pc := 411) rfl 3 rfl E dL_law_411 ?_
  refine j_iconst (pc := 412) (v := 1) (by decide) E dL_law_412 ?_
  refine j_iadd (pc := 413) E dL_law_413 ?_
  refine jl_sld (pc := 414) E hX (xvin hi hL (k := 1) (by decide) rfl) dL_law_414 ?_
  refine j_aload_n (pc := 415) rfl 0 rfl E dL_law_415 ?_
  refine j_iload_n (pc := 416) rfl 3 rfl E dL_law_416 ?_
  refine j_iconst (pc := 417) (v := 2) (by decide) E dL_law_417 ?_
  refine j_iadd (pc := 418) E dL_law_418 ?_
  refine jl_sld (pc := 419) E hX (xvin hi hL (k := 2) (by decide) rfl) dL_law_419 ?_
  refine j_callVi (pc := 420) (st := []) E (kX9_clerkAs h1) mv_X9_clerkAs rfl s_0 (xq 660 (by decide +kernel) (by decide +kernel)) [.int (xs (nI i + 1).toNatClampNeg), .int (xs (nI i + 2).toNatClampNeg)] rfl rfl rfl (by decide) (Nat.le_of_ble_eq_true rfl) dL_law_420 ?_
  refine j_aload_n (pc := 423) rfl 2 rfl E dL_law_423 ?_
  refine j_aload_n (pc := 424) rfl 0 rfl E dL_law_424 ?_
  refine j_iload_n (pc := 425) rfl 3 rfl E dL_law_425 ?_
  refine j_iconst (pc := 426) (v := 1) (by decide) E dL_law_426 ?_
  refine j_iadd (pc := 427) E dL_law_427 ?_
  refine jl_sld (pc := 428) E hX (xvin hi hL (k := 1) (by decide) rfl) dL_law_428 ?_
  refine j_aload_n (pc := 429) rfl 0 rfl E dL_law_429 ?_
  refine j_iload_n (pc := 430) rfl 3 rfl E dL_law_430 ?_
  refine j_iconst (pc := 431) (v := 2) (by decide) E dL_law_431 ?_
  refine j_iadd (pc := 432) E dL_law_432 ?_
  refine jl_sld (pc := 433) E hX (xvin hi hL (k := 2) (by decide) rfl) dL_law_433 ?_
  refine j_callVi (pc := 434) (st := [.int r]) E (kX10_clerkAs h2) mv_X10_clerkAs rfl s_85 (xq 1273 (by decide +kernel) (by decide +kernel)) [.int (xs (nI i + 1).toNatClampNeg), .int (xs (nI i + 2).toNatClampNeg)] rfl rfl rfl (by decide) (Nat.le_of_ble_eq_true rfl) dL_law_434 ?_
  exact jl_eq (pc := 437) (tgt := 1140) E dL_law_437 (by decide) (KB _ h3)
/-- call 10: X9_put -/
def Sim10 (N : Nat) (R : XS → Prop) : Prop := ∀ (σ : XS) (a0 : Int32), R σ → ∃ (r : Int32) (σ1 σ2 : XS), fX9_put N σ a0 = some (r, σ1) ∧ fX10_put N σ1 a0 = some (r, σ2) ∧ R σ2
set_option maxRecDepth 100000 in
set_option maxHeartbeats 4000000 in
theorem law_10 {N : Nat} {R : XS → Prop} {X : XC} {o : XO} {b L i : Nat} {xs : Nat → Int32} (E : XE X cL_law RL 4 12 436) (hX : xScr X b L xs) (hi : i + 5 ≤ L) (hL : L ≤ 2560) (KB : ∀ σ : XS, R σ → JF X o 4 1140 [(0, .ref b), (1, .ref (xa X 0)), (2, .ref (xa X 85)), (3, .int (nI i))] [] σ (some o)) (S : Sim10 N R) (σ : XS) (hR : R σ) : JF X o 4 442 [(0, .ref b), (1, .ref (xa X 0)), (2, .ref (xa X 85)), (3, .int (nI i))] [] σ (some o) := by
  obtain ⟨r, σ1, σ2, h1, h2, h3⟩ := S σ (xs (nI i + 1).toNatClampNeg) hR
  refine j_aload_n (pc := 442) rfl 1 rfl E dL_law_442 ?_
  refine j_aload_n (pc := 443) rfl 0 rfl E dL_law_443 ?_
  refine j_iload_n (pc := 444) rfl 3 rfl E dL_law_444 ?_
  refine j_iconst (pc := 445) (v := 1) (by decide) E dL_law_445 ?_
  refine j_iadd (pc := 446) E dL_law_446 ?_
  refine jl_sld (pc := 447) E hX (xvin hi hL (k := 1) (by decide) rfl) dL_law_447 ?_
  refine j_callVi (pc := 448) (st := []) E (kX9_put h1) mv_X9_put rfl s_0 (xq 686 (by decide +kernel) (by decide +kernel)) [.int (xs (nI i + 1).toNatClampNeg)] rfl rfl rfl (by decide) (Nat.le_of_ble_eq_true rfl) dL_law_448 ?_
  refine j_aload_n (pc := 451) rfl 2 rfl E dL_law_451 ?_
  refine j_aload_n (pc := 452) rfl 0 rfl E dL_law_452 ?_
  refine j_iload_n (pc := 453) rfl 3 rfl E dL_law_453 ?_
  refine j_iconst (pc := 454) (v := 1) (by decide) E dL_law_454 ?_
  refine j_iadd (pc := 455) E dL_law_455 ?_
  refine jl_sld (pc := 456) E hX (xvin hi hL (k := 1) (by decide) rfl) dL_law_456 ?_
  refine j_callVi (pc := 457) (st := [.int r]) E (kX10_put h2) mv_X10_put rfl s_85 (xq 1289 (by decide +kernel) (by decide +kernel)) [.int (xs (nI i + 1).toNatClampNeg)] rfl rfl rfl (by decide) (Nat.le_of_ble_eq_true rfl) dL_law_457 ?_
  exact jl_eq (pc := 460) (tgt := 1140) E dL_law_460 (by decide) (KB _ h3)
/-- call 11: X9_wipe -/
def Sim11 (N : Nat) (R : XS → Prop) : Prop := ∀ (σ : XS), R σ → ∃ (r : Int32) (σ1 σ2 : XS), fX9_wipe N σ = some (r, σ1) ∧ fX10_wipe N σ1 = some (r, σ2) ∧ R σ2
set_option maxRecDepth 100000 in
set_option maxHeartbeats 4000000 in
theorem law_11 {N : Nat} {R : XS → Prop} {X : XC} {o : XO} {b L i : Nat} {xs : Nat → Int32} (E : XE X cL_law RL 4 12 436) (hX : xScr X b L xs) (hi : i + 5 ≤ L) (hL : L ≤ 2560) (KB : ∀ σ : XS, R σ → JF X o 4 1140 [(0, .ref b), (1, .ref (xa X 0)), (2, .ref (xa X 85)), (3, .int (nI i))] [] σ (some o)) (S : Sim11 N R) (σ : XS) (hR : R σ) : JF X o 4 465 [(0, .ref b), (1, .ref (xa X 0)), (2, .ref (xa X 85)), (3, .int (nI i))] [] σ (some o) := by
  obtain ⟨r, σ1, σ2, h1, h2, h3⟩ := S σ hR
  refine j_aload_n (pc := 465) rfl 1 rfl E dL_law_465 ?_
  refine j_callVi (pc := 466) (st := []) E (kX9_wipe h1) mv_X9_wipe rfl s_0 (xq 694 (by decide +kernel) (by decide +kernel)) [] rfl rfl rfl (by decide) (Nat.le_of_ble_eq_true rfl) dL_law_466 ?_
  refine j_aload_n (pc := 469) rfl 2 rfl E dL_law_469 ?_
  refine j_callVi (pc := 470) (st := [.int r]) E (kX10_wipe h2) mv_X10_wipe rfl s_85 (xq 1293 (by decide +kernel) (by decide +kernel)) [] rfl rfl rfl (by decide) (Nat.le_of_ble_eq_true rfl) dL_law_470 ?_
  exact jl_eq (pc := 473) (tgt := 1140) E dL_law_473 (by decide) (KB _ h3)
/-- call 12: X9_line -/
def Sim12 (N : Nat) (R : XS → Prop) : Prop := ∀ (σ : XS) (a0 : Int32), R σ → ∃ (r : Int32) (σ1 σ2 : XS), fX9_line N σ a0 = some (r, σ1) ∧ fX10_line N σ1 a0 = some (r, σ2) ∧ R σ2
set_option maxRecDepth 100000 in
set_option maxHeartbeats 4000000 in
theorem law_12 {N : Nat} {R : XS → Prop} {X : XC} {o : XO} {b L i : Nat} {xs : Nat → Int32} (E : XE X cL_law RL 4 12 436) (hX : xScr X b L xs) (hi : i + 5 ≤ L) (hL : L ≤ 2560) (KB : ∀ σ : XS, R σ → JF X o 4 1140 [(0, .ref b), (1, .ref (xa X 0)), (2, .ref (xa X 85)), (3, .int (nI i))] [] σ (some o)) (S : Sim12 N R) (σ : XS) (hR : R σ) : JF X o 4 478 [(0, .ref b), (1, .ref (xa X 0)), (2, .ref (xa X 85)), (3, .int (nI i))] [] σ (some o) := by
  obtain ⟨r, σ1, σ2, h1, h2, h3⟩ := S σ (xs (nI i + 1).toNatClampNeg) hR
  refine j_aload_n (pc := 478) rfl 1 rfl E dL_law_478 ?_
  refine j_aload_n (pc := 479) rfl 0 rfl E dL_law_479 ?_
  refine j_iload_n (pc := 480) rfl 3 rfl E dL_law_480 ?_
  refine j_iconst (pc := 481) (v := 1) (by decide) E dL_law_481 ?_
  refine j_iadd (pc := 482) E dL_law_482 ?_
  refine jl_sld (pc := 483) E hX (xvin hi hL (k := 1) (by decide) rfl) dL_law_483 ?_
  refine j_callVi (pc := 484) (st := []) E (kX9_line h1) mv_X9_line rfl s_0 (xq 698 (by decide +kernel) (by decide +kernel)) [.int (xs (nI i + 1).toNatClampNeg)] rfl rfl rfl (by decide) (Nat.le_of_ble_eq_true rfl) dL_law_484 ?_
  refine j_aload_n (pc := 487) rfl 2 rfl E dL_law_487 ?_
  refine j_aload_n (pc := 488) rfl 0 rfl E dL_law_488 ?_
  refine j_iload_n (pc := 489) rfl 3 rfl E dL_law_489 ?_
  refine j_iconst (pc := 490) (v := 1) (by decide) E dL_law_490 ?_
  refine j_iadd (pc := 491) E dL_law_491 ?_
  refine jl_sld (pc := 492) E hX (xvin hi hL (k := 1) (by decide) rfl) dL_law_492 ?_
  refine j_callVi (pc := 493) (st := [.int r]) E (kX10_line h2) mv_X10_line rfl s_85 (xq 1297 (by decide +kernel) (by decide +kernel)) [.int (xs (nI i + 1).toNatClampNeg)] rfl rfl rfl (by decide) (Nat.le_of_ble_eq_true rfl) dL_law_493 ?_
  exact jl_eq (pc := 496) (tgt := 1140) E dL_law_496 (by decide) (KB _ h3)
/-- call 13: X9_counts -/
def Sim13 (N : Nat) (R : XS → Prop) : Prop := ∀ (σ : XS) (a0 : Int32), R σ → ∃ (r : Int32) (σ1 σ2 : XS), fX9_counts N σ a0 = some (r, σ1) ∧ fX10_counts N σ1 a0 = some (r, σ2) ∧ R σ2
set_option maxRecDepth 100000 in
set_option maxHeartbeats 4000000 in
theorem law_13 {N : Nat} {R : XS → Prop} {X : XC} {o : XO} {b L i : Nat} {xs : Nat → Int32} (E : XE X cL_law RL 4 12 436) (hX : xScr X b L xs) (hi : i + 5 ≤ L) (hL : L ≤ 2560) (KB : ∀ σ : XS, R σ → JF X o 4 1140 [(0, .ref b), (1, .ref (xa X 0)), (2, .ref (xa X 85)), (3, .int (nI i))] [] σ (some o)) (S : Sim13 N R) (σ : XS) (hR : R σ) : JF X o 4 501 [(0, .ref b), (1, .ref (xa X 0)), (2, .ref (xa X 85)), (3, .int (nI i))] [] σ (some o) := by
  obtain ⟨r, σ1, σ2, h1, h2, h3⟩ := S σ (xs (nI i + 1).toNatClampNeg) hR
  refine j_aload_n (pc := 501) rfl 1 rfl E dL_law_501 ?_
  refine j_aload_n (pc := 502) rfl 0 rfl E dL_law_502 ?_
  refine j_iload_n (pc := 503) rfl 3 rfl E dL_law_503 ?_
  refine j_iconst (pc := 504) (v := 1) (by decide) E dL_law_504 ?_
  refine j_iadd (pc := 505) E dL_law_505 ?_
  refine jl_sld (pc := 506) E hX (xvin hi hL (k := 1) (by decide) rfl) dL_law_506 ?_
  refine j_callVi (pc := 507) (st := []) E (kX9_counts h1) mv_X9_counts rfl s_0 (xq 703 (by decide +kernel) (by decide +kernel)) [.int (xs (nI i + 1).toNatClampNeg)] rfl rfl rfl (by decide) (Nat.le_of_ble_eq_true rfl) dL_law_507 ?_
  refine j_aload_n (pc := 510) rfl 2 rfl E dL_law_510 ?_
  refine j_aload_n (pc := 511) rfl 0 rfl E dL_law_511 ?_
  refine j_iload_n (pc := 512) rfl 3 rfl E dL_law_512 ?_
  refine j_iconst (pc := 513) (v := 1) (by decide) E dL_law_513 ?_
  refine j_iadd (pc := 514) E dL_law_514 ?_
  refine jl_sld (pc := 515) E hX (xvin hi hL (k := 1) (by decide) rfl) dL_law_515 ?_
  refine j_callVi (pc := 516) (st := [.int r]) E (kX10_counts h2) mv_X10_counts rfl s_85 (xq 1301 (by decide +kernel) (by decide +kernel)) [.int (xs (nI i + 1).toNatClampNeg)] rfl rfl rfl (by decide) (Nat.le_of_ble_eq_true rfl) dL_law_516 ?_
  exact jl_eq (pc := 519) (tgt := 1140) E dL_law_519 (by decide) (KB _ h3)
/-- call 14: X9_scans -/
def Sim14 (N : Nat) (R : XS → Prop) : Prop := ∀ (σ : XS), R σ → ∃ (r : Int32) (σ1 σ2 : XS), fX9_scans N σ = some (r, σ1) ∧ fX10_scans N σ1 = some (r, σ2) ∧ R σ2
set_option maxRecDepth 100000 in
set_option maxHeartbeats 4000000 in
theorem law_14 {N : Nat} {R : XS → Prop} {X : XC} {o : XO} {b L i : Nat} {xs : Nat → Int32} (E : XE X cL_law RL 4 12 436) (hX : xScr X b L xs) (hi : i + 5 ≤ L) (hL : L ≤ 2560) (KB : ∀ σ : XS, R σ → JF X o 4 1140 [(0, .ref b), (1, .ref (xa X 0)), (2, .ref (xa X 85)), (3, .int (nI i))] [] σ (some o)) (S : Sim14 N R) (σ : XS) (hR : R σ) : JF X o 4 524 [(0, .ref b), (1, .ref (xa X 0)), (2, .ref (xa X 85)), (3, .int (nI i))] [] σ (some o) := by
  obtain ⟨r, σ1, σ2, h1, h2, h3⟩ := S σ hR
  refine j_aload_n (pc := 524) rfl 1 rfl E dL_law_524 ?_
  refine j_callVi (pc := 525) (st := []) E (kX9_scans h1) mv_X9_scans rfl s_0 (xq 707 (by decide +kernel) (by decide +kernel)) [] rfl rfl rfl (by decide) (Nat.le_of_ble_eq_true rfl) dL_law_525 ?_
  refine j_aload_n (pc := 528) rfl 2 rfl E dL_law_528 ?_
  refine j_callVi (pc := 529) (st := [.int r]) E (kX10_scans h2) mv_X10_scans rfl s_85 (xq 1305 (by decide +kernel) (by decide +kernel)) [] rfl rfl rfl (by decide) (Nat.le_of_ble_eq_true rfl) dL_law_529 ?_
  exact jl_eq (pc := 532) (tgt := 1140) E dL_law_532 (by decide) (KB _ h3)
/-- call 15: X9_passes -/
def Sim15 (N : Nat) (R : XS → Prop) : Prop := ∀ (σ : XS) (a0 a1 : Int32), R σ → ∃ (r : Int32) (σ1 σ2 : XS), fX9_passes N σ a0 a1 = some (r, σ1) ∧ fX10_passes N σ1 a0 a1 = some (r, σ2) ∧ R σ2
set_option maxRecDepth 100000 in
set_option maxHeartbeats 4000000 in
theorem law_15 {N : Nat} {R : XS → Prop} {X : XC} {o : XO} {b L i : Nat} {xs : Nat → Int32} (E : XE X cL_law RL 4 12 436) (hX : xScr X b L xs) (hi : i + 5 ≤ L) (hL : L ≤ 2560) (KB : ∀ σ : XS, R σ → JF X o 4 1140 [(0, .ref b), (1, .ref (xa X 0)), (2, .ref (xa X 85)), (3, .int (nI i))] [] σ (some o)) (S : Sim15 N R) (σ : XS) (hR : R σ) : JF X o 4 537 [(0, .ref b), (1, .ref (xa X 0)), (2, .ref (xa X 85)), (3, .int (nI i))] [] σ (some o) := by
  obtain ⟨r, σ1, σ2, h1, h2, h3⟩ := S σ (xs (nI i + 1).toNatClampNeg) (xs (nI i + 2).toNatClampNeg) hR
  refine j_aload_n (pc := 537) rfl 1 rfl E dL_law_537 ?_
  refine j_aload_n (pc := 538) rfl 0 rfl E dL_law_538 ?_
  refine j_iload_n (pc := 539) rfl 3 rfl E dL_law_539 ?_
  refine j_iconst (pc := 540) (v := 1) (by decide) E dL_law_540 ?_
  refine j_iadd (pc := 541) E dL_law_541 ?_
  refine jl_sld (pc := 542) E hX (xvin hi hL (k := 1) (by decide) rfl) dL_law_542 ?_
  refine j_aload_n (pc := 543) rfl 0 rfl E dL_law_543 ?_
  refine j_iload_n (pc := 544) rfl 3 rfl E dL_law_544 ?_
  refine j_iconst (pc := 545) (v := 2) (by decide) E dL_law_545 ?_
  refine j_iadd (pc := 546) E dL_law_546 ?_
  refine jl_sld (pc := 547) E hX (xvin hi hL (k := 2) (by decide) rfl) dL_law_547 ?_
  refine j_callVi (pc := 548) (st := []) E (kX9_passes h1) mv_X9_passes rfl s_0 (xq 719 (by decide +kernel) (by decide +kernel)) [.int (xs (nI i + 1).toNatClampNeg), .int (xs (nI i + 2).toNatClampNeg)] rfl rfl rfl (by decide) (Nat.le_of_ble_eq_true rfl) dL_law_548 ?_
  refine j_aload_n (pc := 551) rfl 2 rfl E dL_law_551 ?_
  refine j_aload_n (pc := 552) rfl 0 rfl E dL_law_552 ?_
  refine j_iload_n (pc := 553) rfl 3 rfl E dL_law_553 ?_
  refine j_iconst (pc := 554) (v := 1) (by decide) E dL_law_554 ?_
  refine j_iadd (pc := 555) E dL_law_555 ?_
  refine jl_sld (pc := 556) E hX (xvin hi hL (k := 1) (by decide) rfl) dL_law_556 ?_
  refine j_aload_n (pc := 557) rfl 0 rfl E dL_law_557 ?_
  refine j_iload_n (pc := 558) rfl 3 rfl E dL_law_558 ?_
  refine j_iconst (pc := 559) (v := 2) (by decide) E dL_law_559 ?_
  refine j_iadd (pc := 560) E dL_law_560 ?_
  refine jl_sld (pc := 561) E hX (xvin hi hL (k := 2) (by decide) rfl) dL_law_561 ?_
  refine j_callVi (pc := 562) (st := [.int r]) E (kX10_passes h2) mv_X10_passes rfl s_85 (xq 1313 (by decide +kernel) (by decide +kernel)) [.int (xs (nI i + 1).toNatClampNeg), .int (xs (nI i + 2).toNatClampNeg)] rfl rfl rfl (by decide) (Nat.le_of_ble_eq_true rfl) dL_law_562 ?_
  exact jl_eq (pc := 565) (tgt := 1140) E dL_law_565 (by decide) (KB _ h3)
/-- call 16: X9_declare -/
def Sim16 (N : Nat) (R : XS → Prop) : Prop := ∀ (σ : XS) (a0 a1 : Int32), R σ → ∃ (r : Int32) (σ1 σ2 : XS), fX9_declare N σ a0 a1 = some (r, σ1) ∧ fX10_declare N σ1 a0 a1 = some (r, σ2) ∧ R σ2
set_option maxRecDepth 100000 in
set_option maxHeartbeats 4000000 in
theorem law_16 {N : Nat} {R : XS → Prop} {X : XC} {o : XO} {b L i : Nat} {xs : Nat → Int32} (E : XE X cL_law RL 4 12 436) (hX : xScr X b L xs) (hi : i + 5 ≤ L) (hL : L ≤ 2560) (KB : ∀ σ : XS, R σ → JF X o 4 1140 [(0, .ref b), (1, .ref (xa X 0)), (2, .ref (xa X 85)), (3, .int (nI i))] [] σ (some o)) (S : Sim16 N R) (σ : XS) (hR : R σ) : JF X o 4 570 [(0, .ref b), (1, .ref (xa X 0)), (2, .ref (xa X 85)), (3, .int (nI i))] [] σ (some o) := by
  obtain ⟨r, σ1, σ2, h1, h2, h3⟩ := S σ (xs (nI i + 1).toNatClampNeg) (xs (nI i + 2).toNatClampNeg) hR
  refine j_aload_n (pc := 570) rfl 1 rfl E dL_law_570 ?_
  refine j_aload_n (pc := 571) rfl 0 rfl E dL_law_571 ?_
  refine j_iload_n (pc := 572) rfl 3 rfl E dL_law_572 ?_
  refine j_iconst (pc := 573) (v := 1) (by decide) E dL_law_573 ?_
  refine j_iadd (pc := 574) E dL_law_574 ?_
  refine jl_sld (pc := 575) E hX (xvin hi hL (k := 1) (by decide) rfl) dL_law_575 ?_
  refine j_aload_n (pc := 576) rfl 0 rfl E dL_law_576 ?_
  refine j_iload_n (pc := 577) rfl 3 rfl E dL_law_577 ?_
  refine j_iconst (pc := 578) (v := 2) (by decide) E dL_law_578 ?_
  refine j_iadd (pc := 579) E dL_law_579 ?_
  refine jl_sld (pc := 580) E hX (xvin hi hL (k := 2) (by decide) rfl) dL_law_580 ?_
  refine j_callVi (pc := 581) (st := []) E (kX9_declare h1) mv_X9_declare rfl s_0 (xq 750 (by decide +kernel) (by decide +kernel)) [.int (xs (nI i + 1).toNatClampNeg), .int (xs (nI i + 2).toNatClampNeg)] rfl rfl rfl (by decide) (Nat.le_of_ble_eq_true rfl) dL_law_581 ?_
  refine j_aload_n (pc := 584) rfl 2 rfl E dL_law_584 ?_
  refine j_aload_n (pc := 585) rfl 0 rfl E dL_law_585 ?_
  refine j_iload_n (pc := 586) rfl 3 rfl E dL_law_586 ?_
  refine j_iconst (pc := 587) (v := 1) (by decide) E dL_law_587 ?_
  refine j_iadd (pc := 588) E dL_law_588 ?_
  refine jl_sld (pc := 589) E hX (xvin hi hL (k := 1) (by decide) rfl) dL_law_589 ?_
  refine j_aload_n (pc := 590) rfl 0 rfl E dL_law_590 ?_
  refine j_iload_n (pc := 591) rfl 3 rfl E dL_law_591 ?_
  refine j_iconst (pc := 592) (v := 2) (by decide) E dL_law_592 ?_
  refine j_iadd (pc := 593) E dL_law_593 ?_
  refine jl_sld (pc := 594) E hX (xvin hi hL (k := 2) (by decide) rfl) dL_law_594 ?_
  refine j_callVi (pc := 595) (st := [.int r]) E (kX10_declare h2) mv_X10_declare rfl s_85 (xq 1329 (by decide +kernel) (by decide +kernel)) [.int (xs (nI i + 1).toNatClampNeg), .int (xs (nI i + 2).toNatClampNeg)] rfl rfl rfl (by decide) (Nat.le_of_ble_eq_true rfl) dL_law_595 ?_
  exact jl_eq (pc := 598) (tgt := 1140) E dL_law_598 (by decide) (KB _ h3)
/-- call 17: X9_prose -/
def Sim17 (N : Nat) (R : XS → Prop) : Prop := ∀ (σ : XS) (a0 : Int32), R σ → ∃ (r : Int32) (σ1 σ2 : XS), fX9_prose N σ a0 = some (r, σ1) ∧ fX10_prose N σ1 a0 = some (r, σ2) ∧ R σ2
set_option maxRecDepth 100000 in
set_option maxHeartbeats 4000000 in
theorem law_17 {N : Nat} {R : XS → Prop} {X : XC} {o : XO} {b L i : Nat} {xs : Nat → Int32} (E : XE X cL_law RL 4 12 436) (hX : xScr X b L xs) (hi : i + 5 ≤ L) (hL : L ≤ 2560) (KB : ∀ σ : XS, R σ → JF X o 4 1140 [(0, .ref b), (1, .ref (xa X 0)), (2, .ref (xa X 85)), (3, .int (nI i))] [] σ (some o)) (S : Sim17 N R) (σ : XS) (hR : R σ) : JF X o 4 603 [(0, .ref b), (1, .ref (xa X 0)), (2, .ref (xa X 85)), (3, .int (nI i))] [] σ (some o) := by
  obtain ⟨r, σ1, σ2, h1, h2, h3⟩ := S σ (xs (nI i + 1).toNatClampNeg) hR
  refine j_aload_n (pc := 603) rfl 1 rfl E dL_law_603 ?_
  refine j_aload_n (pc := 604) rfl 0 rfl E dL_law_604 ?_
  refine j_iload_n (pc := 605) rfl 3 rfl E dL_law_605 ?_
  refine j_iconst (pc := 606) (v := 1) (by decide) E dL_law_606 ?_
  refine j_iadd (pc := 607) E dL_law_607 ?_
  refine jl_sld (pc := 608) E hX (xvin hi hL (k := 1) (by decide) rfl) dL_law_608 ?_
  refine j_callVi (pc := 609) (st := []) E (kX9_prose h1) mv_X9_prose rfl s_0 (xq 786 (by decide +kernel) (by decide +kernel)) [.int (xs (nI i + 1).toNatClampNeg)] rfl rfl rfl (by decide) (Nat.le_of_ble_eq_true rfl) dL_law_609 ?_
  refine j_aload_n (pc := 612) rfl 2 rfl E dL_law_612 ?_
  refine j_aload_n (pc := 613) rfl 0 rfl E dL_law_613 ?_
  refine j_iload_n (pc := 614) rfl 3 rfl E dL_law_614 ?_
  refine j_iconst (pc := 615) (v := 1) (by decide) E dL_law_615 ?_
  refine j_iadd (pc := 616) E dL_law_616 ?_
  refine jl_sld (pc := 617) E hX (xvin hi hL (k := 1) (by decide) rfl) dL_law_617 ?_
  refine j_callVi (pc := 618) (st := [.int r]) E (kX10_prose h2) mv_X10_prose rfl s_85 (xq 1345 (by decide +kernel) (by decide +kernel)) [.int (xs (nI i + 1).toNatClampNeg)] rfl rfl rfl (by decide) (Nat.le_of_ble_eq_true rfl) dL_law_618 ?_
  exact jl_eq (pc := 621) (tgt := 1140) E dL_law_621 (by decide) (KB _ h3)
/-- call 18: X9_day -/
def Sim18 (N : Nat) (R : XS → Prop) : Prop := ∀ (σ : XS), R σ → ∃ (r : Int32) (σ1 σ2 : XS), fX9_day N σ = some (r, σ1) ∧ fX10_day N σ1 = some (r, σ2) ∧ R σ2
set_option maxRecDepth 100000 in
set_option maxHeartbeats 4000000 in
theorem law_18 {N : Nat} {R : XS → Prop} {X : XC} {o : XO} {b L i : Nat} {xs : Nat → Int32} (E : XE X cL_law RL 4 12 436) (hX : xScr X b L xs) (hi : i + 5 ≤ L) (hL : L ≤ 2560) (KB : ∀ σ : XS, R σ → JF X o 4 1140 [(0, .ref b), (1, .ref (xa X 0)), (2, .ref (xa X 85)), (3, .int (nI i))] [] σ (some o)) (S : Sim18 N R) (σ : XS) (hR : R σ) : JF X o 4 626 [(0, .ref b), (1, .ref (xa X 0)), (2, .ref (xa X 85)), (3, .int (nI i))] [] σ (some o) := by
  obtain ⟨r, σ1, σ2, h1, h2, h3⟩ := S σ hR
  refine j_aload_n (pc := 626) rfl 1 rfl E dL_law_626 ?_
  refine j_callVi (pc := 627) (st := []) E (kX9_day h1) mv_X9_day rfl s_0 (xq 790 (by decide +kernel) (by decide +kernel)) [] rfl rfl rfl (by decide) (Nat.le_of_ble_eq_true rfl) dL_law_627 ?_
  refine j_aload_n (pc := 630) rfl 2 rfl E dL_law_630 ?_
  refine j_callVi (pc := 631) (st := [.int r]) E (kX10_day h2) mv_X10_day rfl s_85 (xq 1349 (by decide +kernel) (by decide +kernel)) [] rfl rfl rfl (by decide) (Nat.le_of_ble_eq_true rfl) dL_law_631 ?_
  exact jl_eq (pc := 634) (tgt := 1140) E dL_law_634 (by decide) (KB _ h3)
/-- call 19: X9_undo -/
def Sim19 (N : Nat) (R : XS → Prop) : Prop := ∀ (σ : XS), R σ → ∃ (r : Int32) (σ1 σ2 : XS), fX9_undo N σ = some (r, σ1) ∧ fX10_undo N σ1 = some (r, σ2) ∧ R σ2
set_option maxRecDepth 100000 in
set_option maxHeartbeats 4000000 in
theorem law_19 {N : Nat} {R : XS → Prop} {X : XC} {o : XO} {b L i : Nat} {xs : Nat → Int32} (E : XE X cL_law RL 4 12 436) (hX : xScr X b L xs) (hi : i + 5 ≤ L) (hL : L ≤ 2560) (KB : ∀ σ : XS, R σ → JF X o 4 1140 [(0, .ref b), (1, .ref (xa X 0)), (2, .ref (xa X 85)), (3, .int (nI i))] [] σ (some o)) (S : Sim19 N R) (σ : XS) (hR : R σ) : JF X o 4 639 [(0, .ref b), (1, .ref (xa X 0)), (2, .ref (xa X 85)), (3, .int (nI i))] [] σ (some o) := by
  obtain ⟨r, σ1, σ2, h1, h2, h3⟩ := S σ hR
  refine j_aload_n (pc := 639) rfl 1 rfl E dL_law_639 ?_
  refine j_callVi (pc := 640) (st := []) E (kX9_undo h1) mv_X9_undo rfl s_0 (xq 798 (by decide +kernel) (by decide +kernel)) [] rfl rfl rfl (by decide) (Nat.le_of_ble_eq_true rfl) dL_law_640 ?_
  refine j_aload_n (pc := 643) rfl 2 rfl E dL_law_643 ?_
  refine j_callVi (pc := 644) (st := [.int r]) E (kX10_undo h2) mv_X10_undo rfl s_85 (xq 1353 (by decide +kernel) (by decide +kernel)) [] rfl rfl rfl (by decide) (Nat.le_of_ble_eq_true rfl) dL_law_644 ?_
  exact jl_eq (pc := 647) (tgt := 1140) E dL_law_647 (by decide) (KB _ h3)
/-- call 20: X9_keep -/
def Sim20 (N : Nat) (R : XS → Prop) : Prop := ∀ (σ : XS) (a0 : Int32), R σ → ∃ (r : Int32) (σ1 σ2 : XS), fX9_keep N σ a0 = some (r, σ1) ∧ fX10_keep N σ1 a0 = some (r, σ2) ∧ R σ2
set_option maxRecDepth 100000 in
set_option maxHeartbeats 4000000 in
theorem law_20 {N : Nat} {R : XS → Prop} {X : XC} {o : XO} {b L i : Nat} {xs : Nat → Int32} (E : XE X cL_law RL 4 12 436) (hX : xScr X b L xs) (hi : i + 5 ≤ L) (hL : L ≤ 2560) (KB : ∀ σ : XS, R σ → JF X o 4 1140 [(0, .ref b), (1, .ref (xa X 0)), (2, .ref (xa X 85)), (3, .int (nI i))] [] σ (some o)) (S : Sim20 N R) (σ : XS) (hR : R σ) : JF X o 4 652 [(0, .ref b), (1, .ref (xa X 0)), (2, .ref (xa X 85)), (3, .int (nI i))] [] σ (some o) := by
  obtain ⟨r, σ1, σ2, h1, h2, h3⟩ := S σ (xs (nI i + 1).toNatClampNeg) hR
  refine j_aload_n (pc := 652) rfl 1 rfl E dL_law_652 ?_
  refine j_aload_n (pc := 653) rfl 0 rfl E dL_law_653 ?_
  refine j_iload_n (pc := 654) rfl 3 rfl E dL_law_654 ?_
  refine j_iconst (pc := 655) (v := 1) (by decide) E dL_law_655 ?_
  refine j_iadd (pc := 656) E dL_law_656 ?_
  refine jl_sld (pc := 657) E hX (xvin hi hL (k := 1) (by decide) rfl) dL_law_657 ?_
  refine j_callVi (pc := 658) (st := []) E (kX9_keep h1) mv_X9_keep rfl s_0 (xq 806 (by decide +kernel) (by decide +kernel)) [.int (xs (nI i + 1).toNatClampNeg)] rfl rfl rfl (by decide) (Nat.le_of_ble_eq_true rfl) dL_law_658 ?_
  refine j_aload_n (pc := 661) rfl 2 rfl E dL_law_661 ?_
  refine j_aload_n (pc := 662) rfl 0 rfl E dL_law_662 ?_
  refine j_iload_n (pc := 663) rfl 3 rfl E dL_law_663 ?_
  refine j_iconst (pc := 664) (v := 1) (by decide) E dL_law_664 ?_
  refine j_iadd (pc := 665) E dL_law_665 ?_
  refine jl_sld (pc := 666) E hX (xvin hi hL (k := 1) (by decide) rfl) dL_law_666 ?_
  refine j_callVi (pc := 667) (st := [.int r]) E (kX10_keep h2) mv_X10_keep rfl s_85 (xq 1357 (by decide +kernel) (by decide +kernel)) [.int (xs (nI i + 1).toNatClampNeg)] rfl rfl rfl (by decide) (Nat.le_of_ble_eq_true rfl) dL_law_667 ?_
  exact jl_eq (pc := 670) (tgt := 1140) E dL_law_670 (by decide) (KB _ h3)
/-- call 21: X9_back -/
def Sim21 (N : Nat) (R : XS → Prop) : Prop := ∀ (σ : XS) (a0 : Int32), R σ → ∃ (r : Int32) (σ1 σ2 : XS), fX9_back N σ a0 = some (r, σ1) ∧ fX10_back N σ1 a0 = some (r, σ2) ∧ R σ2
set_option maxRecDepth 100000 in
set_option maxHeartbeats 4000000 in
theorem law_21 {N : Nat} {R : XS → Prop} {X : XC} {o : XO} {b L i : Nat} {xs : Nat → Int32} (E : XE X cL_law RL 4 12 436) (hX : xScr X b L xs) (hi : i + 5 ≤ L) (hL : L ≤ 2560) (KB : ∀ σ : XS, R σ → JF X o 4 1140 [(0, .ref b), (1, .ref (xa X 0)), (2, .ref (xa X 85)), (3, .int (nI i))] [] σ (some o)) (S : Sim21 N R) (σ : XS) (hR : R σ) : JF X o 4 675 [(0, .ref b), (1, .ref (xa X 0)), (2, .ref (xa X 85)), (3, .int (nI i))] [] σ (some o) := by
  obtain ⟨r, σ1, σ2, h1, h2, h3⟩ := S σ (xs (nI i + 1).toNatClampNeg) hR
  refine j_aload_n (pc := 675) rfl 1 rfl E dL_law_675 ?_
  refine j_aload_n (pc := 676) rfl 0 rfl E dL_law_676 ?_
  refine j_iload_n (pc := 677) rfl 3 rfl E dL_law_677 ?_
  refine j_iconst (pc := 678) (v := 1) (by decide) E dL_law_678 ?_
  refine j_iadd (pc := 679) E dL_law_679 ?_
  refine jl_sld (pc := 680) E hX (xvin hi hL (k := 1) (by decide) rfl) dL_law_680 ?_
  refine j_callVi (pc := 681) (st := []) E (kX9_back h1) mv_X9_back rfl s_0 (xq 814 (by decide +kernel) (by decide +kernel)) [.int (xs (nI i + 1).toNatClampNeg)] rfl rfl rfl (by decide) (Nat.le_of_ble_eq_true rfl) dL_law_681 ?_
  refine j_aload_n (pc := 684) rfl 2 rfl E dL_law_684 ?_
  refine j_aload_n (pc := 685) rfl 0 rfl E dL_law_685 ?_
  refine j_iload_n (pc := 686) rfl 3 rfl E dL_law_686 ?_
  refine j_iconst (pc := 687) (v := 1) (by decide) E dL_law_687 ?_
  refine j_iadd (pc := 688) E dL_law_688 ?_
  refine jl_sld (pc := 689) E hX (xvin hi hL (k := 1) (by decide) rfl) dL_law_689 ?_
  refine j_callVi (pc := 690) (st := [.int r]) E (kX10_back h2) mv_X10_back rfl s_85 (xq 1361 (by decide +kernel) (by decide +kernel)) [.int (xs (nI i + 1).toNatClampNeg)] rfl rfl rfl (by decide) (Nat.le_of_ble_eq_true rfl) dL_law_690 ?_
  exact jl_eq (pc := 693) (tgt := 1140) E dL_law_693 (by decide) (KB _ h3)
/-- call 22: X9_shortest -/
def Sim22 (N : Nat) (R : XS → Prop) : Prop := ∀ (σ : XS) (a0 a1 a2 : Int32), R σ → ∃ (r : Int32) (σ1 σ2 : XS), fX9_shortest N σ a0 a1 a2 = some (r, σ1) ∧ fX10_shortest N σ1 a0 a1 a2 = some (r, σ2) ∧ R σ2
set_option maxRecDepth 100000 in
set_option maxHeartbeats 4000000 in
theorem law_22 {N : Nat} {R : XS → Prop} {X : XC} {o : XO} {b L i : Nat} {xs : Nat → Int32} (E : XE X cL_law RL 4 12 436) (hX : xScr X b L xs) (hi : i + 5 ≤ L) (hL : L ≤ 2560) (KB : ∀ σ : XS, R σ → JF X o 4 1140 [(0, .ref b), (1, .ref (xa X 0)), (2, .ref (xa X 85)), (3, .int (nI i))] [] σ (some o)) (S : Sim22 N R) (σ : XS) (hR : R σ) : JF X o 4 698 [(0, .ref b), (1, .ref (xa X 0)), (2, .ref (xa X 85)), (3, .int (nI i))] [] σ (some o) := by
  obtain ⟨r, σ1, σ2, h1, h2, h3⟩ := S σ (xs (nI i + 1).toNatClampNeg) (xs (nI i + 2).toNatClampNeg) (xs (nI i + 3).toNatClampNeg) hR
  refine j_aload_n (pc := 698) rfl 1 rfl E dL_law_698 ?_
  refine j_aload_n (pc := 699) rfl 0 rfl E dL_law_699 ?_
  refine j_iload_n (pc := 700) rfl 3 rfl E dL_law_700 ?_
  refine j_iconst (pc := 701) (v := 1) (by decide) E dL_law_701 ?_
  refine j_iadd (pc := 702) E dL_law_702 ?_
  refine jl_sld (pc := 703) E hX (xvin hi hL (k := 1) (by decide) rfl) dL_law_703 ?_
  refine j_aload_n (pc := 704) rfl 0 rfl E dL_law_704 ?_
  refine j_iload_n (pc := 705) rfl 3 rfl E dL_law_705 ?_
  refine j_iconst (pc := 706) (v := 2) (by decide) E dL_law_706 ?_
  refine j_iadd (pc := 707) E dL_law_707 ?_
  refine jl_sld (pc := 708) E hX (xvin hi hL (k := 2) (by decide) rfl) dL_law_708 ?_
  refine j_aload_n (pc := 709) rfl 0 rfl E dL_law_709 ?_
  refine j_iload_n (pc := 710) rfl 3 rfl E dL_law_710 ?_
  refine j_iconst (pc := 711) (v := 3) (by decide) E dL_law_711 ?_
  refine j_iadd (pc := 712) E dL_law_712 ?_
  refine jl_sld (pc := 713) E hX (xvin hi hL (k := 3) (by decide) rfl) dL_law_713 ?_
  refine j_callVi (pc := 714) (st := []) E (kX9_shortest h1) mv_X9_shortest rfl s_0 (xq 827 (by decide +kernel) (by decide +kernel)) [.int (xs (nI i + 1).toNatClampNeg), .int (xs (nI i + 2).toNatClampNeg), .int (xs (nI i + 3).toNatClampNeg)] rfl rfl rfl (by decide) (Nat.le_of_ble_eq_true rfl) dL_law_714 ?_
  refine j_aload_n (pc := 717) rfl 2 rfl E dL_law_717 ?_
  refine j_aload_n (pc := 718) rfl 0 rfl E dL_law_718 ?_
  refine j_iload_n (pc := 719) rfl 3 rfl E dL_law_719 ?_
  refine j_iconst (pc := 720) (v := 1) (by decide) E dL_law_720 ?_
  refine j_iadd (pc := 721) E dL_law_721 ?_
  refine jl_sld (pc := 722) E hX (xvin hi hL (k := 1) (by decide) rfl) dL_law_722 ?_
  refine j_aload_n (pc := 723) rfl 0 rfl E dL_law_723 ?_
  refine j_iload_n (pc := 724) rfl 3 rfl E dL_law_724 ?_
  refine j_iconst (pc := 725) (v := 2) (by decide) E dL_law_725 ?_
  refine j_iadd (pc := 726) E dL_law_726 ?_
  refine jl_sld (pc := 727) E hX (xvin hi hL (k := 2) (by decide) rfl) dL_law_727 ?_
  refine j_aload_n (pc := 728) rfl 0 rfl E dL_law_728 ?_
  refine j_iload_n (pc := 729) rfl 3 rfl E dL_law_729 ?_
  refine j_iconst (pc := 730) (v := 3) (by decide) E dL_law_730 ?_
  refine j_iadd (pc := 731) E dL_law_731 ?_
  refine jl_sld (pc := 732) E hX (xvin hi hL (k := 3) (by decide) rfl) dL_law_732 ?_
  refine j_callVi (pc := 733) (st := [.int r]) E (kX10_shortest h2) mv_X10_shortest rfl s_85 (xq 1365 (by decide +kernel) (by decide +kernel)) [.int (xs (nI i + 1).toNatClampNeg), .int (xs (nI i + 2).toNatClampNeg), .int (xs (nI i + 3).toNatClampNeg)] rfl rfl rfl (by decide) (Nat.le_of_ble_eq_true rfl) dL_law_733 ?_
  exact jl_eq (pc := 736) (tgt := 1140) E dL_law_736 (by decide) (KB _ h3)
/-- call 23: X9_shortestWord -/
def Sim23 (N : Nat) (R : XS → Prop) : Prop := ∀ (σ : XS) (a0 a1 a2 : Int32), R σ → ∃ (r : Int32) (σ1 σ2 : XS), fX9_shortestWord N σ a0 a1 a2 = some (r, σ1) ∧ fX10_shortestWord N σ1 a0 a1 a2 = some (r, σ2) ∧ R σ2
set_option maxRecDepth 100000 in
set_option maxHeartbeats 4000000 in
theorem law_23 {N : Nat} {R : XS → Prop} {X : XC} {o : XO} {b L i : Nat} {xs : Nat → Int32} (E : XE X cL_law RL 4 12 436) (hX : xScr X b L xs) (hi : i + 5 ≤ L) (hL : L ≤ 2560) (KB : ∀ σ : XS, R σ → JF X o 4 1140 [(0, .ref b), (1, .ref (xa X 0)), (2, .ref (xa X 85)), (3, .int (nI i))] [] σ (some o)) (S : Sim23 N R) (σ : XS) (hR : R σ) : JF X o 4 741 [(0, .ref b), (1, .ref (xa X 0)), (2, .ref (xa X 85)), (3, .int (nI i))] [] σ (some o) := by
  obtain ⟨r, σ1, σ2, h1, h2, h3⟩ := S σ (xs (nI i + 1).toNatClampNeg) (xs (nI i + 2).toNatClampNeg) (xs (nI i + 3).toNatClampNeg) hR
  refine j_aload_n (pc := 741) rfl 1 rfl E dL_law_741 ?_
  refine j_aload_n (pc := 742) rfl 0 rfl E dL_law_742 ?_
  refine j_iload_n (pc := 743) rfl 3 rfl E dL_law_743 ?_
  refine j_iconst (pc := 744) (v := 1) (by decide) E dL_law_744 ?_
  refine j_iadd (pc := 745) E dL_law_745 ?_
  refine jl_sld (pc := 746) E hX (xvin hi hL (k := 1) (by decide) rfl) dL_law_746 ?_
  refine j_aload_n (pc := 747) rfl 0 rfl E dL_law_747 ?_
  refine j_iload_n (pc := 748) rfl 3 rfl E dL_law_748 ?_
  refine j_iconst (pc := 749) (v := 2) (by decide) E dL_law_749 ?_
  refine j_iadd (pc := 750) E dL_law_750 ?_
  refine jl_sld (pc := 751) E hX (xvin hi hL (k := 2) (by decide) rfl) dL_law_751 ?_
  refine j_aload_n (pc := 752) rfl 0 rfl E dL_law_752 ?_
  refine j_iload_n (pc := 753) rfl 3 rfl E dL_law_753 ?_
  refine j_iconst (pc := 754) (v := 3) (by decide) E dL_law_754 ?_
  refine j_iadd (pc := 755) E dL_law_755 ?_
  refine jl_sld (pc := 756) E hX (xvin hi hL (k := 3) (by decide) rfl) dL_law_756 ?_
  refine j_callVi (pc := 757) (st := []) E (kX9_shortestWord h1) mv_X9_shortestWord rfl s_0 (xq 900 (by decide +kernel) (by decide +kernel)) [.int (xs (nI i + 1).toNatClampNeg), .int (xs (nI i + 2).toNatClampNeg), .int (xs (nI i + 3).toNatClampNeg)] rfl rfl rfl (by decide) (Nat.le_of_ble_eq_true rfl) dL_law_757 ?_
  refine j_aload_n (pc := 760) rfl 2 rfl E dL_law_760 ?_
  refine j_aload_n (pc := 761) rfl 0 rfl E dL_law_761 ?_
  refine j_iload_n (pc := 762) rfl 3 rfl E dL_law_762 ?_
  refine j_iconst (pc := 763) (v := 1) (by decide) E dL_law_763 ?_
  refine j_iadd (pc := 764) E dL_law_764 ?_
  refine jl_sld (pc := 765) E hX (xvin hi hL (k := 1) (by decide) rfl) dL_law_765 ?_
  refine j_aload_n (pc := 766) rfl 0 rfl E dL_law_766 ?_
  refine j_iload_n (pc := 767) rfl 3 rfl E dL_law_767 ?_
  refine j_iconst (pc := 768) (v := 2) (by decide) E dL_law_768 ?_
  refine j_iadd (pc := 769) E dL_law_769 ?_
  refine jl_sld (pc := 770) E hX (xvin hi hL (k := 2) (by decide) rfl) dL_law_770 ?_
  refine j_aload_n (pc := 771) rfl 0 rfl E dL_law_771 ?_
  refine j_iload_n (pc := 772) rfl 3 rfl E dL_law_772 ?_
  refine j_iconst (pc := 773) (v := 3) (by decide) E dL_law_773 ?_
  refine j_iadd (pc := 774) E dL_law_774 ?_
  refine jl_sld (pc := 775) E hX (xvin hi hL (k := 3) (by decide) rfl) dL_law_775 ?_
  refine j_callVi (pc := 776) (st := [.int r]) E (kX10_shortestWord h2) mv_X10_shortestWord rfl s_85 (xq 1389 (by decide +kernel) (by decide +kernel)) [.int (xs (nI i + 1).toNatClampNeg), .int (xs (nI i + 2).toNatClampNeg), .int (xs (nI i + 3).toNatClampNeg)] rfl rfl rfl (by decide) (Nat.le_of_ble_eq_true rfl) dL_law_776 ?_
  exact jl_eq (pc := 779) (tgt := 1140) E dL_law_779 (by decide) (KB _ h3)
/-- call 24: X9_forAll -/
def Sim24 (N : Nat) (R : XS → Prop) : Prop := ∀ (σ : XS) (a0 a1 : Int32), R σ → ∃ (r : Int32) (σ1 σ2 : XS), fX9_forAll N σ a0 a1 = some (r, σ1) ∧ fX10_forAll N σ1 a0 a1 = some (r, σ2) ∧ R σ2
set_option maxRecDepth 100000 in
set_option maxHeartbeats 4000000 in
theorem law_24 {N : Nat} {R : XS → Prop} {X : XC} {o : XO} {b L i : Nat} {xs : Nat → Int32} (E : XE X cL_law RL 4 12 436) (hX : xScr X b L xs) (hi : i + 5 ≤ L) (hL : L ≤ 2560) (KB : ∀ σ : XS, R σ → JF X o 4 1140 [(0, .ref b), (1, .ref (xa X 0)), (2, .ref (xa X 85)), (3, .int (nI i))] [] σ (some o)) (S : Sim24 N R) (σ : XS) (hR : R σ) : JF X o 4 784 [(0, .ref b), (1, .ref (xa X 0)), (2, .ref (xa X 85)), (3, .int (nI i))] [] σ (some o) := by
  obtain ⟨r, σ1, σ2, h1, h2, h3⟩ := S σ (xs (nI i + 1).toNatClampNeg) (xs (nI i + 2).toNatClampNeg) hR
  refine j_aload_n (pc := 784) rfl 1 rfl E dL_law_784 ?_
  refine j_aload_n (pc := 785) rfl 0 rfl E dL_law_785 ?_
  refine j_iload_n (pc := 786) rfl 3 rfl E dL_law_786 ?_
  refine j_iconst (pc := 787) (v := 1) (by decide) E dL_law_787 ?_
  refine j_iadd (pc := 788) E dL_law_788 ?_
  refine jl_sld (pc := 789) E hX (xvin hi hL (k := 1) (by decide) rfl) dL_law_789 ?_
  refine j_aload_n (pc := 790) rfl 0 rfl E dL_law_790 ?_
  refine j_iload_n (pc := 791) rfl 3 rfl E dL_law_791 ?_
  refine j_iconst (pc := 792) (v := 2) (by decide) E dL_law_792 ?_
  refine j_iadd (pc := 793) E dL_law_793 ?_
  refine jl_sld (pc := 794) E hX (xvin hi hL (k := 2) (by decide) rfl) dL_law_794 ?_
  refine j_callVi (pc := 795) (st := []) E (kX9_forAll h1) mv_X9_forAll rfl s_0 (xq 914 (by decide +kernel) (by decide +kernel)) [.int (xs (nI i + 1).toNatClampNeg), .int (xs (nI i + 2).toNatClampNeg)] rfl rfl rfl (by decide) (Nat.le_of_ble_eq_true rfl) dL_law_795 ?_
  refine j_aload_n (pc := 798) rfl 2 rfl E dL_law_798 ?_
  refine j_aload_n (pc := 799) rfl 0 rfl E dL_law_799 ?_
  refine j_iload_n (pc := 800) rfl 3 rfl E dL_law_800 ?_
  refine j_iconst (pc := 801) (v := 1) (by decide) E dL_law_801 ?_
  refine j_iadd (pc := 802) E dL_law_802 ?_
  refine jl_sld (pc := 803) E hX (xvin hi hL (k := 1) (by decide) rfl) dL_law_803 ?_
  refine j_aload_n (pc := 804) rfl 0 rfl E dL_law_804 ?_
  refine j_iload_n (pc := 805) rfl 3 rfl E dL_law_805 ?_
  refine j_iconst (pc := 806) (v := 2) (by decide) E dL_law_806 ?_
  refine j_iadd (pc := 807) E dL_law_807 ?_
  refine jl_sld (pc := 808) E hX (xvin hi hL (k := 2) (by decide) rfl) dL_law_808 ?_
  refine j_callVi (pc := 809) (st := [.int r]) E (kX10_forAll h2) mv_X10_forAll rfl s_85 (xq 1393 (by decide +kernel) (by decide +kernel)) [.int (xs (nI i + 1).toNatClampNeg), .int (xs (nI i + 2).toNatClampNeg)] rfl rfl rfl (by decide) (Nat.le_of_ble_eq_true rfl) dL_law_809 ?_
  exact jl_eq (pc := 812) (tgt := 1140) E dL_law_812 (by decide) (KB _ h3)
/-- call 25: X9_hidden -/
def Sim25 (N : Nat) (R : XS → Prop) : Prop := ∀ (σ : XS) (a0 : Int32), R σ → ∃ (r : Int32) (σ1 σ2 : XS), fX9_hidden N σ a0 = some (r, σ1) ∧ fX10_hidden N σ1 a0 = some (r, σ2) ∧ R σ2
set_option maxRecDepth 100000 in
set_option maxHeartbeats 4000000 in
theorem law_25 {N : Nat} {R : XS → Prop} {X : XC} {o : XO} {b L i : Nat} {xs : Nat → Int32} (E : XE X cL_law RL 4 12 436) (hX : xScr X b L xs) (hi : i + 5 ≤ L) (hL : L ≤ 2560) (KB : ∀ σ : XS, R σ → JF X o 4 1140 [(0, .ref b), (1, .ref (xa X 0)), (2, .ref (xa X 85)), (3, .int (nI i))] [] σ (some o)) (S : Sim25 N R) (σ : XS) (hR : R σ) : JF X o 4 817 [(0, .ref b), (1, .ref (xa X 0)), (2, .ref (xa X 85)), (3, .int (nI i))] [] σ (some o) := by
  obtain ⟨r, σ1, σ2, h1, h2, h3⟩ := S σ (xs (nI i + 1).toNatClampNeg) hR
  refine j_aload_n (pc := 817) rfl 1 rfl E dL_law_817 ?_
  refine j_aload_n (pc := 818) rfl 0 rfl E dL_law_818 ?_
  refine j_iload_n (pc := 819) rfl 3 rfl E dL_law_819 ?_
  refine j_iconst (pc := 820) (v := 1) (by decide) E dL_law_820 ?_
  refine j_iadd (pc := 821) E dL_law_821 ?_
  refine jl_sld (pc := 822) E hX (xvin hi hL (k := 1) (by decide) rfl) dL_law_822 ?_
  refine j_callVi (pc := 823) (st := []) E (kX9_hidden h1) mv_X9_hidden rfl s_0 (xq 922 (by decide +kernel) (by decide +kernel)) [.int (xs (nI i + 1).toNatClampNeg)] rfl rfl rfl (by decide) (Nat.le_of_ble_eq_true rfl) dL_law_823 ?_
  refine j_aload_n (pc := 826) rfl 2 rfl E dL_law_826 ?_
  refine j_aload_n (pc := 827) rfl 0 rfl E dL_law_827 ?_
  refine j_iload_n (pc := 828) rfl 3 rfl E dL_law_828 ?_
  refine j_iconst (pc := 829) (v := 1) (by decide) E dL_law_829 ?_
  refine j_iadd (pc := 830) E dL_law_830 ?_
  refine jl_sld (pc := 831) E hX (xvin hi hL (k := 1) (by decide) rfl) dL_law_831 ?_
  refine j_callVi (pc := 832) (st := [.int r]) E (kX10_hidden h2) mv_X10_hidden rfl s_85 (xq 1397 (by decide +kernel) (by decide +kernel)) [.int (xs (nI i + 1).toNatClampNeg)] rfl rfl rfl (by decide) (Nat.le_of_ble_eq_true rfl) dL_law_832 ?_
  exact jl_eq (pc := 835) (tgt := 1140) E dL_law_835 (by decide) (KB _ h3)
/-- call 26: X9_altered -/
def Sim26 (N : Nat) (R : XS → Prop) : Prop := ∀ (σ : XS) (a0 a1 a2 : Int32), R σ → ∃ (r : Int32) (σ1 σ2 : XS), fX9_altered N σ a0 a1 a2 = some (r, σ1) ∧ fX10_altered N σ1 a0 a1 a2 = some (r, σ2) ∧ R σ2
set_option maxRecDepth 100000 in
set_option maxHeartbeats 4000000 in
theorem law_26 {N : Nat} {R : XS → Prop} {X : XC} {o : XO} {b L i : Nat} {xs : Nat → Int32} (E : XE X cL_law RL 4 12 436) (hX : xScr X b L xs) (hi : i + 5 ≤ L) (hL : L ≤ 2560) (KB : ∀ σ : XS, R σ → JF X o 4 1140 [(0, .ref b), (1, .ref (xa X 0)), (2, .ref (xa X 85)), (3, .int (nI i))] [] σ (some o)) (S : Sim26 N R) (σ : XS) (hR : R σ) : JF X o 4 840 [(0, .ref b), (1, .ref (xa X 0)), (2, .ref (xa X 85)), (3, .int (nI i))] [] σ (some o) := by
  obtain ⟨r, σ1, σ2, h1, h2, h3⟩ := S σ (xs (nI i + 1).toNatClampNeg) (xs (nI i + 2).toNatClampNeg) (xs (nI i + 3).toNatClampNeg) hR
  refine j_aload_n (pc := 840) rfl 1 rfl E dL_law_840 ?_
  refine j_aload_n (pc := 841) rfl 0 rfl E dL_law_841 ?_
  refine j_iload_n (pc := 842) rfl 3 rfl E dL_law_842 ?_
  refine j_iconst (pc := 843) (v := 1) (by decide) E dL_law_843 ?_
  refine j_iadd (pc := 844) E dL_law_844 ?_
  refine jl_sld (pc := 845) E hX (xvin hi hL (k := 1) (by decide) rfl) dL_law_845 ?_
  refine j_aload_n (pc := 846) rfl 0 rfl E dL_law_846 ?_
  refine j_iload_n (pc := 847) rfl 3 rfl E dL_law_847 ?_
  refine j_iconst (pc := 848) (v := 2) (by decide) E dL_law_848 ?_
  refine j_iadd (pc := 849) E dL_law_849 ?_
  refine jl_sld (pc := 850) E hX (xvin hi hL (k := 2) (by decide) rfl) dL_law_850 ?_
  refine j_aload_n (pc := 851) rfl 0 rfl E dL_law_851 ?_
  refine j_iload_n (pc := 852) rfl 3 rfl E dL_law_852 ?_
  refine j_iconst (pc := 853) (v := 3) (by decide) E dL_law_853 ?_
  refine j_iadd (pc := 854) E dL_law_854 ?_
  refine jl_sld (pc := 855) E hX (xvin hi hL (k := 3) (by decide) rfl) dL_law_855 ?_
  refine j_callVi (pc := 856) (st := []) E (kX9_altered h1) mv_X9_altered rfl s_0 (xq 939 (by decide +kernel) (by decide +kernel)) [.int (xs (nI i + 1).toNatClampNeg), .int (xs (nI i + 2).toNatClampNeg), .int (xs (nI i + 3).toNatClampNeg)] rfl rfl rfl (by decide) (Nat.le_of_ble_eq_true rfl) dL_law_856 ?_
  refine j_aload_n (pc := 859) rfl 2 rfl E dL_law_859 ?_
  refine j_aload_n (pc := 860) rfl 0 rfl E dL_law_860 ?_
  refine j_iload_n (pc := 861) rfl 3 rfl E dL_law_861 ?_
  refine j_iconst (pc := 862) (v := 1) (by decide) E dL_law_862 ?_
  refine j_iadd (pc := 863) E dL_law_863 ?_
  refine jl_sld (pc := 864) E hX (xvin hi hL (k := 1) (by decide) rfl) dL_law_864 ?_
  refine j_aload_n (pc := 865) rfl 0 rfl E dL_law_865 ?_
  refine j_iload_n (pc := 866) rfl 3 rfl E dL_law_866 ?_
  refine j_iconst (pc := 867) (v := 2) (by decide) E dL_law_867 ?_
  refine j_iadd (pc := 868) E dL_law_868 ?_
  refine jl_sld (pc := 869) E hX (xvin hi hL (k := 2) (by decide) rfl) dL_law_869 ?_
  refine j_aload_n (pc := 870) rfl 0 rfl E dL_law_870 ?_
  refine j_iload_n (pc := 871) rfl 3 rfl E dL_law_871 ?_
  refine j_iconst (pc := 872) (v := 3) (by decide) E dL_law_872 ?_
  refine j_iadd (pc := 873) E dL_law_873 ?_
  refine jl_sld (pc := 874) E hX (xvin hi hL (k := 3) (by decide) rfl) dL_law_874 ?_
  refine j_callVi (pc := 875) (st := [.int r]) E (kX10_altered h2) mv_X10_altered rfl s_85 (xq 1401 (by decide +kernel) (by decide +kernel)) [.int (xs (nI i + 1).toNatClampNeg), .int (xs (nI i + 2).toNatClampNeg), .int (xs (nI i + 3).toNatClampNeg)] rfl rfl rfl (by decide) (Nat.le_of_ble_eq_true rfl) dL_law_875 ?_
  exact jl_eq (pc := 878) (tgt := 1140) E dL_law_878 (by decide) (KB _ h3)
/-- call 27: X9_laden -/
def Sim27 (N : Nat) (R : XS → Prop) : Prop := ∀ (σ : XS) (a0 a1 : Int32), R σ → ∃ (r : Int32) (σ1 σ2 : XS), fX9_laden N σ a0 a1 = some (r, σ1) ∧ fX10_laden N σ1 a0 a1 = some (r, σ2) ∧ R σ2
set_option maxRecDepth 100000 in
set_option maxHeartbeats 4000000 in
theorem law_27 {N : Nat} {R : XS → Prop} {X : XC} {o : XO} {b L i : Nat} {xs : Nat → Int32} (E : XE X cL_law RL 4 12 436) (hX : xScr X b L xs) (hi : i + 5 ≤ L) (hL : L ≤ 2560) (KB : ∀ σ : XS, R σ → JF X o 4 1140 [(0, .ref b), (1, .ref (xa X 0)), (2, .ref (xa X 85)), (3, .int (nI i))] [] σ (some o)) (S : Sim27 N R) (σ : XS) (hR : R σ) : JF X o 4 883 [(0, .ref b), (1, .ref (xa X 0)), (2, .ref (xa X 85)), (3, .int (nI i))] [] σ (some o) := by
  obtain ⟨r, σ1, σ2, h1, h2, h3⟩ := S σ (xs (nI i + 1).toNatClampNeg) (xs (nI i + 2).toNatClampNeg) hR
  refine j_aload_n (pc := 883) rfl 1 rfl E dL_law_883 ?_
  refine j_aload_n (pc := 884) rfl 0 rfl E dL_law_884 ?_
  refine j_iload_n (pc := 885) rfl 3 rfl E dL_law_885 ?_
  refine j_iconst (pc := 886) (v := 1) (by decide) E dL_law_886 ?_
  refine j_iadd (pc := 887) E dL_law_887 ?_
  refine jl_sld (pc := 888) E hX (xvin hi hL (k := 1) (by decide) rfl) dL_law_888 ?_
  refine j_aload_n (pc := 889) rfl 0 rfl E dL_law_889 ?_
  refine j_iload_n (pc := 890) rfl 3 rfl E dL_law_890 ?_
  refine j_iconst (pc := 891) (v := 2) (by decide) E dL_law_891 ?_
  refine j_iadd (pc := 892) E dL_law_892 ?_
  refine jl_sld (pc := 893) E hX (xvin hi hL (k := 2) (by decide) rfl) dL_law_893 ?_
  refine j_callVi (pc := 894) (st := []) E (kX9_laden h1) mv_X9_laden rfl s_0 (xq 947 (by decide +kernel) (by decide +kernel)) [.int (xs (nI i + 1).toNatClampNeg), .int (xs (nI i + 2).toNatClampNeg)] rfl rfl rfl (by decide) (Nat.le_of_ble_eq_true rfl) dL_law_894 ?_
  refine j_aload_n (pc := 897) rfl 2 rfl E dL_law_897 ?_
  refine j_aload_n (pc := 898) rfl 0 rfl E dL_law_898 ?_
  refine j_iload_n (pc := 899) rfl 3 rfl E dL_law_899 ?_
  refine j_iconst (pc := 900) (v := 1) (by decide) E dL_law_900 ?_
  refine j_iadd (pc := 901) E dL_law_901 ?_
  refine jl_sld (pc := 902) E hX (xvin hi hL (k := 1) (by decide) rfl) dL_law_902 ?_
  refine j_aload_n (pc := 903) rfl 0 rfl E dL_law_903 ?_
  refine j_iload_n (pc := 904) rfl 3 rfl E dL_law_904 ?_
  refine j_iconst (pc := 905) (v := 2) (by decide) E dL_law_905 ?_
  refine j_iadd (pc := 906) E dL_law_906 ?_
  refine jl_sld (pc := 907) E hX (xvin hi hL (k := 2) (by decide) rfl) dL_law_907 ?_
  refine j_callVi (pc := 908) (st := [.int r]) E (kX10_laden h2) mv_X10_laden rfl s_85 (xq 1405 (by decide +kernel) (by decide +kernel)) [.int (xs (nI i + 1).toNatClampNeg), .int (xs (nI i + 2).toNatClampNeg)] rfl rfl rfl (by decide) (Nat.le_of_ble_eq_true rfl) dL_law_908 ?_
  exact jl_eq (pc := 911) (tgt := 1140) E dL_law_911 (by decide) (KB _ h3)
/-- call 28: X9_left -/
def Sim28 (N : Nat) (R : XS → Prop) : Prop := ∀ (σ : XS) (a0 : Int32), R σ → ∃ (r : Int32) (σ1 σ2 : XS), fX9_left N σ a0 = some (r, σ1) ∧ fX10_left N σ1 a0 = some (r, σ2) ∧ R σ2
set_option maxRecDepth 100000 in
set_option maxHeartbeats 4000000 in
theorem law_28 {N : Nat} {R : XS → Prop} {X : XC} {o : XO} {b L i : Nat} {xs : Nat → Int32} (E : XE X cL_law RL 4 12 436) (hX : xScr X b L xs) (hi : i + 5 ≤ L) (hL : L ≤ 2560) (KB : ∀ σ : XS, R σ → JF X o 4 1140 [(0, .ref b), (1, .ref (xa X 0)), (2, .ref (xa X 85)), (3, .int (nI i))] [] σ (some o)) (S : Sim28 N R) (σ : XS) (hR : R σ) : JF X o 4 916 [(0, .ref b), (1, .ref (xa X 0)), (2, .ref (xa X 85)), (3, .int (nI i))] [] σ (some o) := by
  obtain ⟨r, σ1, σ2, h1, h2, h3⟩ := S σ (xs (nI i + 1).toNatClampNeg) hR
  refine j_aload_n (pc := 916) rfl 1 rfl E dL_law_916 ?_
  refine j_aload_n (pc := 917) rfl 0 rfl E dL_law_917 ?_
  refine j_iload_n (pc := 918) rfl 3 rfl E dL_law_918 ?_
  refine j_iconst (pc := 919) (v := 1) (by decide) E dL_law_919 ?_
  refine j_iadd (pc := 920) E dL_law_920 ?_
  refine jl_sld (pc := 921) E hX (xvin hi hL (k := 1) (by decide) rfl) dL_law_921 ?_
  refine j_callVi (pc := 922) (st := []) E (kX9_left h1) mv_X9_left rfl s_0 (xq 962 (by decide +kernel) (by decide +kernel)) [.int (xs (nI i + 1).toNatClampNeg)] rfl rfl rfl (by decide) (Nat.le_of_ble_eq_true rfl) dL_law_922 ?_
  refine j_aload_n (pc := 925) rfl 2 rfl E dL_law_925 ?_
  refine j_aload_n (pc := 926) rfl 0 rfl E dL_law_926 ?_
  refine j_iload_n (pc := 927) rfl 3 rfl E dL_law_927 ?_
  refine j_iconst (pc := 928) (v := 1) (by decide) E dL_law_928 ?_
  refine j_iadd (pc := 929) E dL_law_929 ?_
  refine jl_sld (pc := 930) E hX (xvin hi hL (k := 1) (by decide) rfl) dL_law_930 ?_
  refine j_callVi (pc := 931) (st := [.int r]) E (kX10_left h2) mv_X10_left rfl s_85 (xq 1414 (by decide +kernel) (by decide +kernel)) [.int (xs (nI i + 1).toNatClampNeg)] rfl rfl rfl (by decide) (Nat.le_of_ble_eq_true rfl) dL_law_931 ?_
  exact jl_eq (pc := 934) (tgt := 1140) E dL_law_934 (by decide) (KB _ h3)
/-- call 29: X9_odds -/
def Sim29 (N : Nat) (R : XS → Prop) : Prop := ∀ (σ : XS) (a0 a1 a2 a3 : Int32), R σ → ∃ (r : Int32) (σ1 σ2 : XS), fX9_odds N σ a0 a1 a2 a3 = some (r, σ1) ∧ fX10_odds N σ1 a0 a1 a2 a3 = some (r, σ2) ∧ R σ2
set_option maxRecDepth 100000 in
set_option maxHeartbeats 4000000 in
theorem law_29 {N : Nat} {R : XS → Prop} {X : XC} {o : XO} {b L i : Nat} {xs : Nat → Int32} (E : XE X cL_law RL 4 12 436) (hX : xScr X b L xs) (hi : i + 5 ≤ L) (hL : L ≤ 2560) (KB : ∀ σ : XS, R σ → JF X o 4 1140 [(0, .ref b), (1, .ref (xa X 0)), (2, .ref (xa X 85)), (3, .int (nI i))] [] σ (some o)) (S : Sim29 N R) (σ : XS) (hR : R σ) : JF X o 4 939 [(0, .ref b), (1, .ref (xa X 0)), (2, .ref (xa X 85)), (3, .int (nI i))] [] σ (some o) := by
  obtain ⟨r, σ1, σ2, h1, h2, h3⟩ := S σ (xs (nI i + 1).toNatClampNeg) (xs (nI i + 2).toNatClampNeg) (xs (nI i + 3).toNatClampNeg) (xs (nI i + 4).toNatClampNeg) hR
  refine j_aload_n (pc := 939) rfl 1 rfl E dL_law_939 ?_
  refine j_aload_n (pc := 940) rfl 0 rfl E dL_law_940 ?_
  refine j_iload_n (pc := 941) rfl 3 rfl E dL_law_941 ?_
  refine j_iconst (pc := 942) (v := 1) (by decide) E dL_law_942 ?_
  refine j_iadd (pc := 943) E dL_law_943 ?_
  refine jl_sld (pc := 944) E hX (xvin hi hL (k := 1) (by decide) rfl) dL_law_944 ?_
  refine j_aload_n (pc := 945) rfl 0 rfl E dL_law_945 ?_
  refine j_iload_n (pc := 946) rfl 3 rfl E dL_law_946 ?_
  refine j_iconst (pc := 947) (v := 2) (by decide) E dL_law_947 ?_
  refine j_iadd (pc := 948) E dL_law_948 ?_
  refine jl_sld (pc := 949) E hX (xvin hi hL (k := 2) (by decide) rfl) dL_law_949 ?_
  refine j_aload_n (pc := 950) rfl 0 rfl E dL_law_950 ?_
  refine j_iload_n (pc := 951) rfl 3 rfl E dL_law_951 ?_
  refine j_iconst (pc := 952) (v := 3) (by decide) E dL_law_952 ?_
  refine j_iadd (pc := 953) E dL_law_953 ?_
  refine jl_sld (pc := 954) E hX (xvin hi hL (k := 3) (by decide) rfl) dL_law_954 ?_
  refine j_aload_n (pc := 955) rfl 0 rfl E dL_law_955 ?_
  refine j_iload_n (pc := 956) rfl 3 rfl E dL_law_956 ?_
  refine j_iconst (pc := 957) (v := 4) (by decide) E dL_law_957 ?_
  refine j_iadd (pc := 958) E dL_law_958 ?_
  refine jl_sld (pc := 959) E hX (xvin hi hL (k := 4) (by decide) rfl) dL_law_959 ?_
  refine j_callVi (pc := 960) (st := []) E (kX9_odds h1) mv_X9_odds rfl s_0 (xq 977 (by decide +kernel) (by decide +kernel)) [.int (xs (nI i + 1).toNatClampNeg), .int (xs (nI i + 2).toNatClampNeg), .int (xs (nI i + 3).toNatClampNeg), .int (xs (nI i + 4).toNatClampNeg)] rfl rfl rfl (by decide) (Nat.le_of_ble_eq_true rfl) dL_law_960 ?_
  refine j_aload_n (pc := 963) rfl 2 rfl E dL_law_963 ?_
  refine j_aload_n (pc := 964) rfl 0 rfl E dL_law_964 ?_
  refine j_iload_n (pc := 965) rfl 3 rfl E dL_law_965 ?_
  refine j_iconst (pc := 966) (v := 1) (by decide) E dL_law_966 ?_
  refine j_iadd (pc := 967) E dL_law_967 ?_
  refine jl_sld (pc := 968) E hX (xvin hi hL (k := 1) (by decide) rfl) dL_law_968 ?_
  refine j_aload_n (pc := 969) rfl 0 rfl E dL_law_969 ?_
  refine j_iload_n (pc := 970) rfl 3 rfl E dL_law_970 ?_
  refine j_iconst (pc := 971) (v := 2) (by decide) E dL_law_971 ?_
  refine j_iadd (pc := 972) E dL_law_972 ?_
  refine jl_sld (pc := 973) E hX (xvin hi hL (k := 2) (by decide) rfl) dL_law_973 ?_
  refine j_aload_n (pc := 974) rfl 0 rfl E dL_law_974 ?_
  refine j_iload_n (pc := 975) rfl 3 rfl E dL_law_975 ?_
  refine j_iconst (pc := 976) (v := 3) (by decide) E dL_law_976 ?_
  refine j_iadd (pc := 977) E dL_law_977 ?_
  refine jl_sld (pc := 978) E hX (xvin hi hL (k := 3) (by decide) rfl) dL_law_978 ?_
  refine j_aload_n (pc := 979) rfl 0 rfl E dL_law_979 ?_
  refine j_iload_n (pc := 980) rfl 3 rfl E dL_law_980 ?_
  refine j_iconst (pc := 981) (v := 4) (by decide) E dL_law_981 ?_
  refine j_iadd (pc := 982) E dL_law_982 ?_
  refine jl_sld (pc := 983) E hX (xvin hi hL (k := 4) (by decide) rfl) dL_law_983 ?_
  refine j_callVi (pc := 984) (st := [.int r]) E (kX10_odds h2) mv_X10_odds rfl s_85 (xq 1418 (by decide +kernel) (by decide +kernel)) [.int (xs (nI i + 1).toNatClampNeg), .int (xs (nI i + 2).toNatClampNeg), .int (xs (nI i + 3).toNatClampNeg), .int (xs (nI i + 4).toNatClampNeg)] rfl rfl rfl (by decide) (Nat.le_of_ble_eq_true rfl) dL_law_984 ?_
  exact jl_eq (pc := 987) (tgt := 1140) E dL_law_987 (by decide) (KB _ h3)
/-- call 30: X9_year -/
def Sim30 (N : Nat) (R : XS → Prop) : Prop := ∀ (σ : XS), R σ → ∃ (r : Int32) (σ1 σ2 : XS), fX9_year N σ = some (r, σ1) ∧ fX10_year N σ1 = some (r, σ2) ∧ R σ2
set_option maxRecDepth 100000 in
set_option maxHeartbeats 4000000 in
theorem law_30 {N : Nat} {R : XS → Prop} {X : XC} {o : XO} {b L i : Nat} {xs : Nat → Int32} (E : XE X cL_law RL 4 12 436) (hX : xScr X b L xs) (hi : i + 5 ≤ L) (hL : L ≤ 2560) (KB : ∀ σ : XS, R σ → JF X o 4 1140 [(0, .ref b), (1, .ref (xa X 0)), (2, .ref (xa X 85)), (3, .int (nI i))] [] σ (some o)) (S : Sim30 N R) (σ : XS) (hR : R σ) : JF X o 4 992 [(0, .ref b), (1, .ref (xa X 0)), (2, .ref (xa X 85)), (3, .int (nI i))] [] σ (some o) := by
  obtain ⟨r, σ1, σ2, h1, h2, h3⟩ := S σ hR
  refine j_aload_n (pc := 992) rfl 1 rfl E dL_law_992 ?_
  refine j_callVi (pc := 993) (st := []) E (kX9_year h1) mv_X9_year rfl s_0 (xq 988 (by decide +kernel) (by decide +kernel)) [] rfl rfl rfl (by decide) (Nat.le_of_ble_eq_true rfl) dL_law_993 ?_
  refine j_aload_n (pc := 996) rfl 2 rfl E dL_law_996 ?_
  refine j_callVi (pc := 997) (st := [.int r]) E (kX10_year h2) mv_X10_year rfl s_85 (xq 1425 (by decide +kernel) (by decide +kernel)) [] rfl rfl rfl (by decide) (Nat.le_of_ble_eq_true rfl) dL_law_997 ?_
  exact jl_eq (pc := 1000) (tgt := 1140) E dL_law_1000 (by decide) (KB _ h3)
/-- call 31: X9_secret -/
def Sim31 (N : Nat) (R : XS → Prop) : Prop := ∀ (σ : XS) (a0 : Int32), R σ → ∃ (r : Int32) (σ1 σ2 : XS), fX9_secret N σ a0 = some (r, σ1) ∧ fX10_secret N σ1 a0 = some (r, σ2) ∧ R σ2
set_option maxRecDepth 100000 in
set_option maxHeartbeats 4000000 in
theorem law_31 {N : Nat} {R : XS → Prop} {X : XC} {o : XO} {b L i : Nat} {xs : Nat → Int32} (E : XE X cL_law RL 4 12 436) (hX : xScr X b L xs) (hi : i + 5 ≤ L) (hL : L ≤ 2560) (KB : ∀ σ : XS, R σ → JF X o 4 1140 [(0, .ref b), (1, .ref (xa X 0)), (2, .ref (xa X 85)), (3, .int (nI i))] [] σ (some o)) (S : Sim31 N R) (σ : XS) (hR : R σ) : JF X o 4 1005 [(0, .ref b), (1, .ref (xa X 0)), (2, .ref (xa X 85)), (3, .int (nI i))] [] σ (some o) := by
  obtain ⟨r, σ1, σ2, h1, h2, h3⟩ := S σ (xs (nI i + 1).toNatClampNeg) hR
  refine j_aload_n (pc := 1005) rfl 1 rfl E dL_law_1005 ?_
  refine j_aload_n (pc := 1006) rfl 0 rfl E dL_law_1006 ?_
  refine j_iload_n (pc := 1007) rfl 3 rfl E dL_law_1007 ?_
  refine j_iconst (pc := 1008) (v := 1) (by decide) E dL_law_1008 ?_
  refine j_iadd (pc := 1009) E dL_law_1009 ?_
  refine jl_sld (pc := 1010) E hX (xvin hi hL (k := 1) (by decide) rfl) dL_law_1010 ?_
  refine j_callVi (pc := 1011) (st := []) E (kX9_secret h1) mv_X9_secret rfl s_0 (xq 996 (by decide +kernel) (by decide +kernel)) [.int (xs (nI i + 1).toNatClampNeg)] rfl rfl rfl (by decide) (Nat.le_of_ble_eq_true rfl) dL_law_1011 ?_
  refine j_aload_n (pc := 1014) rfl 2 rfl E dL_law_1014 ?_
  refine j_aload_n (pc := 1015) rfl 0 rfl E dL_law_1015 ?_
  refine j_iload_n (pc := 1016) rfl 3 rfl E dL_law_1016 ?_
  refine j_iconst (pc := 1017) (v := 1) (by decide) E dL_law_1017 ?_
  refine j_iadd (pc := 1018) E dL_law_1018 ?_
  refine jl_sld (pc := 1019) E hX (xvin hi hL (k := 1) (by decide) rfl) dL_law_1019 ?_
  refine j_callVi (pc := 1020) (st := [.int r]) E (kX10_secret h2) mv_X10_secret rfl s_85 (xq 1429 (by decide +kernel) (by decide +kernel)) [.int (xs (nI i + 1).toNatClampNeg)] rfl rfl rfl (by decide) (Nat.le_of_ble_eq_true rfl) dL_law_1020 ?_
  exact jl_eq (pc := 1023) (tgt := 1140) E dL_law_1023 (by decide) (KB _ h3)
/-- call 32: X9_counted -/
def Sim32 (N : Nat) (R : XS → Prop) : Prop := ∀ (σ : XS) (a0 a1 : Int32), R σ → ∃ (r : Int32) (σ1 σ2 : XS), fX9_counted N σ a0 a1 = some (r, σ1) ∧ fX10_counted N σ1 a0 a1 = some (r, σ2) ∧ R σ2
set_option maxRecDepth 100000 in
set_option maxHeartbeats 4000000 in
theorem law_32 {N : Nat} {R : XS → Prop} {X : XC} {o : XO} {b L i : Nat} {xs : Nat → Int32} (E : XE X cL_law RL 4 12 436) (hX : xScr X b L xs) (hi : i + 5 ≤ L) (hL : L ≤ 2560) (KB : ∀ σ : XS, R σ → JF X o 4 1140 [(0, .ref b), (1, .ref (xa X 0)), (2, .ref (xa X 85)), (3, .int (nI i))] [] σ (some o)) (S : Sim32 N R) (σ : XS) (hR : R σ) : JF X o 4 1028 [(0, .ref b), (1, .ref (xa X 0)), (2, .ref (xa X 85)), (3, .int (nI i))] [] σ (some o) := by
  obtain ⟨r, σ1, σ2, h1, h2, h3⟩ := S σ (xs (nI i + 1).toNatClampNeg) (xs (nI i + 2).toNatClampNeg) hR
  refine j_aload_n (pc := 1028) rfl 1 rfl E dL_law_1028 ?_
  refine j_aload_n (pc := 1029) rfl 0 rfl E dL_law_1029 ?_
  refine j_iload_n (pc := 1030) rfl 3 rfl E dL_law_1030 ?_
  refine j_iconst (pc := 1031) (v := 1) (by decide) E dL_law_1031 ?_
  refine j_iadd (pc := 1032) E dL_law_1032 ?_
  refine jl_sld (pc := 1033) E hX (xvin hi hL (k := 1) (by decide) rfl) dL_law_1033 ?_
  refine j_aload_n (pc := 1034) rfl 0 rfl E dL_law_1034 ?_
  refine j_iload_n (pc := 1035) rfl 3 rfl E dL_law_1035 ?_
  refine j_iconst (pc := 1036) (v := 2) (by decide) E dL_law_1036 ?_
  refine j_iadd (pc := 1037) E dL_law_1037 ?_
  refine jl_sld (pc := 1038) E hX (xvin hi hL (k := 2) (by decide) rfl) dL_law_1038 ?_
  refine j_callVi (pc := 1039) (st := []) E (kX9_counted h1) mv_X9_counted rfl s_0 (xq 1005 (by decide +kernel) (by decide +kernel)) [.int (xs (nI i + 1).toNatClampNeg), .int (xs (nI i + 2).toNatClampNeg)] rfl rfl rfl (by decide) (Nat.le_of_ble_eq_true rfl) dL_law_1039 ?_
  refine j_aload_n (pc := 1042) rfl 2 rfl E dL_law_1042 ?_
  refine j_aload_n (pc := 1043) rfl 0 rfl E dL_law_1043 ?_
  refine j_iload_n (pc := 1044) rfl 3 rfl E dL_law_1044 ?_
  refine j_iconst (pc := 1045) (v := 1) (by decide) E dL_law_1045 ?_
  refine j_iadd (pc := 1046) E dL_law_1046 ?_
  refine jl_sld (pc := 1047) E hX (xvin hi hL (k := 1) (by decide) rfl) dL_law_1047 ?_
  refine j_aload_n (pc := 1048) rfl 0 rfl E dL_law_1048 ?_
  refine j_iload_n (pc := 1049) rfl 3 rfl E dL_law_1049 ?_
  refine j_iconst (pc := 1050) (v := 2) (by decide) E dL_law_1050 ?_
  refine j_iadd (pc := 1051) E dL_law_1051 ?_
  refine jl_sld (pc := 1052) E hX (xvin hi hL (k := 2) (by decide) rfl) dL_law_1052 ?_
  refine j_callVi (pc := 1053) (st := [.int r]) E (kX10_counted h2) mv_X10_counted rfl s_85 (xq 1433 (by decide +kernel) (by decide +kernel)) [.int (xs (nI i + 1).toNatClampNeg), .int (xs (nI i + 2).toNatClampNeg)] rfl rfl rfl (by decide) (Nat.le_of_ble_eq_true rfl) dL_law_1053 ?_
  exact jl_eq (pc := 1056) (tgt := 1140) E dL_law_1056 (by decide) (KB _ h3)
/-- call 33: X9_canBe -/
def Sim33 (N : Nat) (R : XS → Prop) : Prop := ∀ (σ : XS) (a0 : Int32), R σ → ∃ (r : Int32) (σ1 σ2 : XS), fX9_canBe N σ a0 = some (r, σ1) ∧ fX10_canBe N σ1 a0 = some (r, σ2) ∧ R σ2
set_option maxRecDepth 100000 in
set_option maxHeartbeats 4000000 in
theorem law_33 {N : Nat} {R : XS → Prop} {X : XC} {o : XO} {b L i : Nat} {xs : Nat → Int32} (E : XE X cL_law RL 4 12 436) (hX : xScr X b L xs) (hi : i + 5 ≤ L) (hL : L ≤ 2560) (KB : ∀ σ : XS, R σ → JF X o 4 1140 [(0, .ref b), (1, .ref (xa X 0)), (2, .ref (xa X 85)), (3, .int (nI i))] [] σ (some o)) (S : Sim33 N R) (σ : XS) (hR : R σ) : JF X o 4 1061 [(0, .ref b), (1, .ref (xa X 0)), (2, .ref (xa X 85)), (3, .int (nI i))] [] σ (some o) := by
  obtain ⟨r, σ1, σ2, h1, h2, h3⟩ := S σ (xs (nI i + 1).toNatClampNeg) hR
  refine j_aload_n (pc := 1061) rfl 1 rfl E dL_law_1061 ?_
  refine j_aload_n (pc := 1062) rfl 0 rfl E dL_law_1062 ?_
  refine j_iload_n (pc := 1063) rfl 3 rfl E dL_law_1063 ?_
  refine j_iconst (pc := 1064) (v := 1) (by decide) E dL_law_1064 ?_
  refine j_iadd (pc := 1065) E dL_law_1065 ?_
  refine jl_sld (pc := 1066) E hX (xvin hi hL (k := 1) (by decide) rfl) dL_law_1066 ?_
  refine j_callVi (pc := 1067) (st := []) E (kX9_canBe h1) mv_X9_canBe rfl s_0 (xq 1013 (by decide +kernel) (by decide +kernel)) [.int (xs (nI i + 1).toNatClampNeg)] rfl rfl rfl (by decide) (Nat.le_of_ble_eq_true rfl) dL_law_1067 ?_
  refine j_aload_n (pc := 1070) rfl 2 rfl E dL_law_1070 ?_
  refine j_aload_n (pc := 1071) rfl 0 rfl E dL_law_1071 ?_
  refine j_iload_n (pc := 1072) rfl 3 rfl E dL_law_1072 ?_
  refine j_iconst (pc := 1073) (v := 1) (by decide) E dL_law_1073 ?_
  refine j_iadd (pc := 1074) E dL_law_1074 ?_
  refine jl_sld (pc := 1075) E hX (xvin hi hL (k := 1) (by decide) rfl) dL_law_1075 ?_
  refine j_callVi (pc := 1076) (st := [.int r]) E (kX10_canBe h2) mv_X10_canBe rfl s_85 (xq 1438 (by decide +kernel) (by decide +kernel)) [.int (xs (nI i + 1).toNatClampNeg)] rfl rfl rfl (by decide) (Nat.le_of_ble_eq_true rfl) dL_law_1076 ?_
  exact jl_eq (pc := 1079) (tgt := 1140) E dL_law_1079 (by decide) (KB _ h3)
/-- call 34: X9_canBeWord -/
def Sim34 (N : Nat) (R : XS → Prop) : Prop := ∀ (σ : XS) (a0 a1 : Int32), R σ → ∃ (r : Int32) (σ1 σ2 : XS), fX9_canBeWord N σ a0 a1 = some (r, σ1) ∧ fX10_canBeWord N σ1 a0 a1 = some (r, σ2) ∧ R σ2
set_option maxRecDepth 100000 in
set_option maxHeartbeats 4000000 in
theorem law_34 {N : Nat} {R : XS → Prop} {X : XC} {o : XO} {b L i : Nat} {xs : Nat → Int32} (E : XE X cL_law RL 4 12 436) (hX : xScr X b L xs) (hi : i + 5 ≤ L) (hL : L ≤ 2560) (KB : ∀ σ : XS, R σ → JF X o 4 1140 [(0, .ref b), (1, .ref (xa X 0)), (2, .ref (xa X 85)), (3, .int (nI i))] [] σ (some o)) (S : Sim34 N R) (σ : XS) (hR : R σ) : JF X o 4 1084 [(0, .ref b), (1, .ref (xa X 0)), (2, .ref (xa X 85)), (3, .int (nI i))] [] σ (some o) := by
  obtain ⟨r, σ1, σ2, h1, h2, h3⟩ := S σ (xs (nI i + 1).toNatClampNeg) (xs (nI i + 2).toNatClampNeg) hR
  refine j_aload_n (pc := 1084) rfl 1 rfl E dL_law_1084 ?_
  refine j_aload_n (pc := 1085) rfl 0 rfl E dL_law_1085 ?_
  refine j_iload_n (pc := 1086) rfl 3 rfl E dL_law_1086 ?_
  refine j_iconst (pc := 1087) (v := 1) (by decide) E dL_law_1087 ?_
  refine j_iadd (pc := 1088) E dL_law_1088 ?_
  refine jl_sld (pc := 1089) E hX (xvin hi hL (k := 1) (by decide) rfl) dL_law_1089 ?_
  refine j_aload_n (pc := 1090) rfl 0 rfl E dL_law_1090 ?_
  refine j_iload_n (pc := 1091) rfl 3 rfl E dL_law_1091 ?_
  refine j_iconst (pc := 1092) (v := 2) (by decide) E dL_law_1092 ?_
  refine j_iadd (pc := 1093) E dL_law_1093 ?_
  refine jl_sld (pc := 1094) E hX (xvin hi hL (k := 2) (by decide) rfl) dL_law_1094 ?_
  refine j_callVi (pc := 1095) (st := []) E (kX9_canBeWord h1) mv_X9_canBeWord rfl s_0 (xq 1047 (by decide +kernel) (by decide +kernel)) [.int (xs (nI i + 1).toNatClampNeg), .int (xs (nI i + 2).toNatClampNeg)] rfl rfl rfl (by decide) (Nat.le_of_ble_eq_true rfl) dL_law_1095 ?_
  refine j_aload_n (pc := 1098) rfl 2 rfl E dL_law_1098 ?_
  refine j_aload_n (pc := 1099) rfl 0 rfl E dL_law_1099 ?_
  refine j_iload_n (pc := 1100) rfl 3 rfl E dL_law_1100 ?_
  refine j_iconst (pc := 1101) (v := 1) (by decide) E dL_law_1101 ?_
  refine j_iadd (pc := 1102) E dL_law_1102 ?_
  refine jl_sld (pc := 1103) E hX (xvin hi hL (k := 1) (by decide) rfl) dL_law_1103 ?_
  refine j_aload_n (pc := 1104) rfl 0 rfl E dL_law_1104 ?_
  refine j_iload_n (pc := 1105) rfl 3 rfl E dL_law_1105 ?_
  refine j_iconst (pc := 1106) (v := 2) (by decide) E dL_law_1106 ?_
  refine j_iadd (pc := 1107) E dL_law_1107 ?_
  refine jl_sld (pc := 1108) E hX (xvin hi hL (k := 2) (by decide) rfl) dL_law_1108 ?_
  refine j_callVi (pc := 1109) (st := [.int r]) E (kX10_canBeWord h2) mv_X10_canBeWord rfl s_85 (xq 1446 (by decide +kernel) (by decide +kernel)) [.int (xs (nI i + 1).toNatClampNeg), .int (xs (nI i + 2).toNatClampNeg)] rfl rfl rfl (by decide) (Nat.le_of_ble_eq_true rfl) dL_law_1109 ?_
  exact jl_eq (pc := 1112) (tgt := 1140) E dL_law_1112 (by decide) (KB _ h3)
/-- call 35: X9_count -/
def Sim35 (N : Nat) (R : XS → Prop) : Prop := ∀ (σ : XS) (a0 : Int32), R σ → ∃ (r : Int32) (σ1 σ2 : XS), fX9_count N σ a0 = some (r, σ1) ∧ fX10_count N σ1 a0 = some (r, σ2) ∧ R σ2
set_option maxRecDepth 100000 in
set_option maxHeartbeats 4000000 in
theorem law_35 {N : Nat} {R : XS → Prop} {X : XC} {o : XO} {b L i : Nat} {xs : Nat → Int32} (E : XE X cL_law RL 4 12 436) (hX : xScr X b L xs) (hi : i + 5 ≤ L) (hL : L ≤ 2560) (KB : ∀ σ : XS, R σ → JF X o 4 1140 [(0, .ref b), (1, .ref (xa X 0)), (2, .ref (xa X 85)), (3, .int (nI i))] [] σ (some o)) (S : Sim35 N R) (σ : XS) (hR : R σ) : JF X o 4 1117 [(0, .ref b), (1, .ref (xa X 0)), (2, .ref (xa X 85)), (3, .int (nI i))] [] σ (some o) := by
  obtain ⟨r, σ1, σ2, h1, h2, h3⟩ := S σ (xs (nI i + 1).toNatClampNeg) hR
  refine j_aload_n (pc := 1117) rfl 1 rfl E dL_law_1117 ?_
  refine j_aload_n (pc := 1118) rfl 0 rfl E dL_law_1118 ?_
  refine j_iload_n (pc := 1119) rfl 3 rfl E dL_law_1119 ?_
  refine j_iconst (pc := 1120) (v := 1) (by decide) E dL_law_1120 ?_
  refine j_iadd (pc := 1121) E dL_law_1121 ?_
  refine jl_sld (pc := 1122) E hX (xvin hi hL (k := 1) (by decide) rfl) dL_law_1122 ?_
  refine j_callVi (pc := 1123) (st := []) E (kX9_count h1) mv_X9_count rfl s_0 (xq 1051 (by decide +kernel) (by decide +kernel)) [.int (xs (nI i + 1).toNatClampNeg)] rfl rfl rfl (by decide) (Nat.le_of_ble_eq_true rfl) dL_law_1123 ?_
  refine j_aload_n (pc := 1126) rfl 2 rfl E dL_law_1126 ?_
  refine j_aload_n (pc := 1127) rfl 0 rfl E dL_law_1127 ?_
  refine j_iload_n (pc := 1128) rfl 3 rfl E dL_law_1128 ?_
  refine j_iconst (pc := 1129) (v := 1) (by decide) E dL_law_1129 ?_
  refine j_iadd (pc := 1130) E dL_law_1130 ?_
  refine jl_sld (pc := 1131) E hX (xvin hi hL (k := 1) (by decide) rfl) dL_law_1131 ?_
  refine j_callVi (pc := 1132) (st := [.int r]) E (kX10_count h2) mv_X10_count rfl s_85 (xq 1450 (by decide +kernel) (by decide +kernel)) [.int (xs (nI i + 1).toNatClampNeg)] rfl rfl rfl (by decide) (Nat.le_of_ble_eq_true rfl) dL_law_1132 ?_
  exact jl_eq (pc := 1135) (tgt := 1140) E dL_law_1135 (by decide) (KB _ h3)
/-- all 36 calls keep R -/
def SimAll (N : Nat) (R : XS → Prop) : Prop := Sim0 N R ∧ Sim1 N R ∧ Sim2 N R ∧ Sim3 N R ∧ Sim4 N R ∧ Sim5 N R ∧ Sim6 N R ∧ Sim7 N R ∧ Sim8 N R ∧ Sim9 N R ∧ Sim10 N R ∧ Sim11 N R ∧ Sim12 N R ∧ Sim13 N R ∧ Sim14 N R ∧ Sim15 N R ∧ Sim16 N R ∧ Sim17 N R ∧ Sim18 N R ∧ Sim19 N R ∧ Sim20 N R ∧ Sim21 N R ∧ Sim22 N R ∧ Sim23 N R ∧ Sim24 N R ∧ Sim25 N R ∧ Sim26 N R ∧ Sim27 N R ∧ Sim28 N R ∧ Sim29 N R ∧ Sim30 N R ∧ Sim31 N R ∧ Sim32 N R ∧ Sim33 N R ∧ Sim34 N R ∧ Sim35 N R
set_option maxRecDepth 100000 in
set_option maxHeartbeats 4000000 in
theorem law_loop {N : Nat} {R : XS → Prop} {X : XC} {o : XO} {b L : Nat} {xs : Nat → Int32} (E : XE X cL_law RL 4 12 436) (hX : xScr X b L xs) (hL : L ≤ 2560) (F : ∀ (H : Heap) (locs : List Loc) (ls : Array Slot) (σ : XS), xHold X σ H locs → xW X H locs 1147 ls [.int 1]) (S : SimAll N R) : ∀ (n i : Nat) (σ : XS), i ≤ L → L + 1 ≤ i + n → R σ → JF X o 4 18 [(0, .ref b), (1, .ref (xa X 0)), (2, .ref (xa X 85)), (3, .int (nI i))] [] σ (some o) := by
  intro n
  induction n with
  | zero => intro i σ h1 h2; omega
  | succ n ih =>
    intro i σ h1 h2 hR
    refine j_iload_n (pc := 18) rfl 3 rfl E dL_law_18 ?_
    refine j_aload_n (pc := 19) rfl 0 rfl E dL_law_19 ?_
    refine jl_slen (pc := 20) E hX dL_law_20 ?_
    refine j_iconst (pc := 21) (v := 5) (by decide) E dL_law_21 ?_
    refine j_isub (pc := 22) E dL_law_22 ?_
    refine jl_gt (pc := 23) (tgt := 1146) E dL_law_23 (by decide) (fun _ => ?_) (fun c => ?_)
    · refine j_iconst (pc := 1146) (v := 1) (by decide) E dL_law_1146 ?_
      intro hT H locs ls hl hH
      exact F H locs ls σ hH
    · have hi : i + 5 ≤ L := by
        have e : (nI L - 5).toInt = (L : Int) - 5 := pk_sub_toInt (a := L) (b := 5) (by omega) (by omega)
        rw [Int32.lt_iff_toInt_lt, e, nI_toInt (by omega)] at c
        omega
      have KB : ∀ σ : XS, R σ → JF X o 4 1140 [(0, .ref b), (1, .ref (xa X 0)), (2, .ref (xa X 85)), (3, .int (nI i))] [] σ (some o) := by
        intro σ hR
        refine j_iinc (pc := 1140) (v := nI (i + 5)) (lv1 := [(3, .int (nI (i + 5))), (0, .ref b), (1, .ref (xa X 0)), (2, .ref (xa X 85))]) E dL_law_1140 3 rfl (by rw [show Int32.ofInt 5 = nI 5 from by decide, nI_add]) (by decide) rfl ?_
        refine j_goto (pc := 1143) (tgt := 18) E dL_law_1143 (by decide) ?_
        refine JF.sub [1, 2, 3, 0] rfl ?_
        exact ih (i + 5) σ hi (by omega) hR
      obtain ⟨S0, S1, S2, S3, S4, S5, S6, S7, S8, S9, S10, S11, S12, S13, S14, S15, S16, S17, S18, S19, S20, S21, S22, S23, S24, S25, S26, S27, S28, S29, S30, S31, S32, S33, S34, S35⟩ := S
      refine j_aload_n (pc := 26) rfl 0 rfl E dL_law_26 ?_
      refine j_iload_n (pc := 27) rfl 3 rfl E dL_law_27 ?_
      refine jl_sld (pc := 28) E hX (vp_in_nI (by omega) (by omega)) dL_law_28 ?_
      refine j_bipush (pc := 29) (v := 63) (by decide) E dL_law_29 ?_
      refine j_iand (pc := 31) E dL_law_31 ?_
      generalize (xs (nI i).toNatClampNeg &&& 63) = x
      by_cases c0 : x = 0
      · refine j_tabIn (pc := 32) (tgt := 192) E dL_law_32 c0 (by decide) (by decide) rfl (by decide) ?_
        exact law_0 E hX hi hL KB S0 σ hR
      by_cases c1 : x = 1
      · refine j_tabIn (pc := 32) (tgt := 215) E dL_law_32 c1 (by decide) (by decide) rfl (by decide) ?_
        exact law_1 E hX hi hL KB S1 σ hR
      by_cases c2 : x = 2
      · refine j_tabIn (pc := 32) (tgt := 228) E dL_law_32 c2 (by decide) (by decide) rfl (by decide) ?_
        exact law_2 E hX hi hL KB S2 σ hR
      by_cases c3 : x = 3
      · refine j_tabIn (pc := 32) (tgt := 241) E dL_law_32 c3 (by decide) (by decide) rfl (by decide) ?_
        exact law_3 E hX hi hL KB S3 σ hR
      by_cases c4 : x = 4
      · refine j_tabIn (pc := 32) (tgt := 254) E dL_law_32 c4 (by decide) (by decide) rfl (by decide) ?_
        exact law_4 E hX hi hL KB S4 σ hR
      by_cases c5 : x = 5
      · refine j_tabIn (pc := 32) (tgt := 287) E dL_law_32 c5 (by decide) (by decide) rfl (by decide) ?_
        exact law_5 E hX hi hL KB S5 σ hR
      by_cases c6 : x = 6
      · refine j_tabIn (pc := 32) (tgt := 320) E dL_law_32 c6 (by decide) (by decide) rfl (by decide) ?_
        exact law_6 E hX hi hL KB S6 σ hR
      by_cases c7 : x = 7
      · refine j_tabIn (pc := 32) (tgt := 343) E dL_law_32 c7 (by decide) (by decide) rfl (by decide) ?_
        exact law_7 E hX hi hL KB S7 σ hR
      by_cases c8 : x = 8
      · refine j_tabIn (pc := 32) (tgt := 376) E dL_law_32 c8 (by decide) (by decide) rfl (by decide) ?_
        exact law_8 E hX hi hL KB S8 σ hR
      by_cases c9 : x = 9
      · refine j_tabIn (pc := 32) (tgt := 409) E dL_law_32 c9 (by decide) (by decide) rfl (by decide) ?_
        exact law_9 E hX hi hL KB S9 σ hR
      by_cases c10 : x = 10
      · refine j_tabIn (pc := 32) (tgt := 442) E dL_law_32 c10 (by decide) (by decide) rfl (by decide) ?_
        exact law_10 E hX hi hL KB S10 σ hR
      by_cases c11 : x = 11
      · refine j_tabIn (pc := 32) (tgt := 465) E dL_law_32 c11 (by decide) (by decide) rfl (by decide) ?_
        exact law_11 E hX hi hL KB S11 σ hR
      by_cases c12 : x = 12
      · refine j_tabIn (pc := 32) (tgt := 478) E dL_law_32 c12 (by decide) (by decide) rfl (by decide) ?_
        exact law_12 E hX hi hL KB S12 σ hR
      by_cases c13 : x = 13
      · refine j_tabIn (pc := 32) (tgt := 501) E dL_law_32 c13 (by decide) (by decide) rfl (by decide) ?_
        exact law_13 E hX hi hL KB S13 σ hR
      by_cases c14 : x = 14
      · refine j_tabIn (pc := 32) (tgt := 524) E dL_law_32 c14 (by decide) (by decide) rfl (by decide) ?_
        exact law_14 E hX hi hL KB S14 σ hR
      by_cases c15 : x = 15
      · refine j_tabIn (pc := 32) (tgt := 537) E dL_law_32 c15 (by decide) (by decide) rfl (by decide) ?_
        exact law_15 E hX hi hL KB S15 σ hR
      by_cases c16 : x = 16
      · refine j_tabIn (pc := 32) (tgt := 570) E dL_law_32 c16 (by decide) (by decide) rfl (by decide) ?_
        exact law_16 E hX hi hL KB S16 σ hR
      by_cases c17 : x = 17
      · refine j_tabIn (pc := 32) (tgt := 603) E dL_law_32 c17 (by decide) (by decide) rfl (by decide) ?_
        exact law_17 E hX hi hL KB S17 σ hR
      by_cases c18 : x = 18
      · refine j_tabIn (pc := 32) (tgt := 626) E dL_law_32 c18 (by decide) (by decide) rfl (by decide) ?_
        exact law_18 E hX hi hL KB S18 σ hR
      by_cases c19 : x = 19
      · refine j_tabIn (pc := 32) (tgt := 639) E dL_law_32 c19 (by decide) (by decide) rfl (by decide) ?_
        exact law_19 E hX hi hL KB S19 σ hR
      by_cases c20 : x = 20
      · refine j_tabIn (pc := 32) (tgt := 652) E dL_law_32 c20 (by decide) (by decide) rfl (by decide) ?_
        exact law_20 E hX hi hL KB S20 σ hR
      by_cases c21 : x = 21
      · refine j_tabIn (pc := 32) (tgt := 675) E dL_law_32 c21 (by decide) (by decide) rfl (by decide) ?_
        exact law_21 E hX hi hL KB S21 σ hR
      by_cases c22 : x = 22
      · refine j_tabIn (pc := 32) (tgt := 698) E dL_law_32 c22 (by decide) (by decide) rfl (by decide) ?_
        exact law_22 E hX hi hL KB S22 σ hR
      by_cases c23 : x = 23
      · refine j_tabIn (pc := 32) (tgt := 741) E dL_law_32 c23 (by decide) (by decide) rfl (by decide) ?_
        exact law_23 E hX hi hL KB S23 σ hR
      by_cases c24 : x = 24
      · refine j_tabIn (pc := 32) (tgt := 784) E dL_law_32 c24 (by decide) (by decide) rfl (by decide) ?_
        exact law_24 E hX hi hL KB S24 σ hR
      by_cases c25 : x = 25
      · refine j_tabIn (pc := 32) (tgt := 817) E dL_law_32 c25 (by decide) (by decide) rfl (by decide) ?_
        exact law_25 E hX hi hL KB S25 σ hR
      by_cases c26 : x = 26
      · refine j_tabIn (pc := 32) (tgt := 840) E dL_law_32 c26 (by decide) (by decide) rfl (by decide) ?_
        exact law_26 E hX hi hL KB S26 σ hR
      by_cases c27 : x = 27
      · refine j_tabIn (pc := 32) (tgt := 883) E dL_law_32 c27 (by decide) (by decide) rfl (by decide) ?_
        exact law_27 E hX hi hL KB S27 σ hR
      by_cases c28 : x = 28
      · refine j_tabIn (pc := 32) (tgt := 916) E dL_law_32 c28 (by decide) (by decide) rfl (by decide) ?_
        exact law_28 E hX hi hL KB S28 σ hR
      by_cases c29 : x = 29
      · refine j_tabIn (pc := 32) (tgt := 939) E dL_law_32 c29 (by decide) (by decide) rfl (by decide) ?_
        exact law_29 E hX hi hL KB S29 σ hR
      by_cases c30 : x = 30
      · refine j_tabIn (pc := 32) (tgt := 992) E dL_law_32 c30 (by decide) (by decide) rfl (by decide) ?_
        exact law_30 E hX hi hL KB S30 σ hR
      by_cases c31 : x = 31
      · refine j_tabIn (pc := 32) (tgt := 1005) E dL_law_32 c31 (by decide) (by decide) rfl (by decide) ?_
        exact law_31 E hX hi hL KB S31 σ hR
      by_cases c32 : x = 32
      · refine j_tabIn (pc := 32) (tgt := 1028) E dL_law_32 c32 (by decide) (by decide) rfl (by decide) ?_
        exact law_32 E hX hi hL KB S32 σ hR
      by_cases c33 : x = 33
      · refine j_tabIn (pc := 32) (tgt := 1061) E dL_law_32 c33 (by decide) (by decide) rfl (by decide) ?_
        exact law_33 E hX hi hL KB S33 σ hR
      by_cases c34 : x = 34
      · refine j_tabIn (pc := 32) (tgt := 1084) E dL_law_32 c34 (by decide) (by decide) rfl (by decide) ?_
        exact law_34 E hX hi hL KB S34 σ hR
      by_cases c35 : x = 35
      · refine j_tabIn (pc := 32) (tgt := 1117) E dL_law_32 c35 (by decide) (by decide) rfl (by decide) ?_
        exact law_35 E hX hi hL KB S35 σ hR
      refine j_tabOut (pc := 32) (tgt := 1140) E dL_law_32 (by have := xne c0 (k := 0) (by decide); have := xne c1 (k := 1) (by decide); have := xne c2 (k := 2) (by decide); have := xne c3 (k := 3) (by decide); have := xne c4 (k := 4) (by decide); have := xne c5 (k := 5) (by decide); have := xne c6 (k := 6) (by decide); have := xne c7 (k := 7) (by decide); have := xne c8 (k := 8) (by decide); have := xne c9 (k := 9) (by decide); have := xne c10 (k := 10) (by decide); have := xne c11 (k := 11) (by decide); have := xne c12 (k := 12) (by decide); have := xne c13 (k := 13) (by decide); have := xne c14 (k := 14) (by decide); have := xne c15 (k := 15) (by decide); have := xne c16 (k := 16) (by decide); have := xne c17 (k := 17) (by decide); have := xne c18 (k := 18) (by decide); have := xne c19 (k := 19) (by decide); have := xne c20 (k := 20) (by decide); have := xne c21 (k := 21) (by decide); have := xne c22 (k := 22) (by decide); have := xne c23 (k := 23) (by decide); have := xne c24 (k := 24) (by decide); have := xne c25 (k := 25) (by decide); have := xne c26 (k := 26) (by decide); have := xne c27 (k := 27) (by decide); have := xne c28 (k := 28) (by decide); have := xne c29 (k := 29) (by decide); have := xne c30 (k := 30) (by decide); have := xne c31 (k := 31) (by decide); have := xne c32 (k := 32) (by decide); have := xne c33 (k := 33) (by decide); have := xne c34 (k := 34) (by decide); have := xne c35 (k := 35) (by decide); omega) (by decide) ?_
      exact KB σ hR
