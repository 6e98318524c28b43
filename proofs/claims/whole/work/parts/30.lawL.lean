/-! ===== the law ===== -/
def gScr (E : EE) (X : CT) (b nS : Nat) (xS : Nat → Int32) : Prop := match X with
  | (_p, _e, _R, s, _m, _args, _below, _meth, _c, _Q, _nL) => va_X b nS xS s s.heap ∧ b < s.heap.size ∧ ¬ E.2.1 ≤ b
section GL
variable {E : EE} {X : CT} {cc : ByteArray} {own : String} {ret : Option FieldType} {F L Mc Ms : Nat} {ini : Bool} {mL : Nat} {q n : Nat} {G : Hp} {pc : Nat} {lv : List (Option Value)} {st : List Value} {b nS : Nat} {xS : Nat → Int32}
theorem e_sld (C : gCx E X cc own ret F L Mc Ms ini mL) (hX : gScr E X b nS xS) {i x : Int32} (hd : decode cc pc = .ok (.iaload, 1)) (hx : x = xS i.toNatClampNeg) (hg : vp_in i nS) (kk : gV E X q n G (pc + 1) lv (.int x :: st)) : gV E X q n G pc lv (.int i :: .ref b :: st) := by
  subst hx
  obtain ⟨p, e, R, s, m, args, below, meth, c, Q, nL⟩ := X
  intro H locs ls hW hS hl
  exact va_sld C.1 C.2.1 hX.1 hX.2.1 hX.2.2 hS hg hd (kk H locs ls hW hS hl)
theorem e_slen (C : gCx E X cc own ret F L Mc Ms ini mL) (hX : gScr E X b nS xS) {x : Int32} (hd : decode cc pc = .ok (.arraylength, 1)) (hx : x = Int32.ofNat nS) (kk : gV E X q n G (pc + 1) lv (.int x :: st)) : gV E X q n G pc lv (.ref b :: st) := by
  subst hx
  obtain ⟨p, e, R, s, m, args, below, meth, c, Q, nL⟩ := X
  intro H locs ls hW hS hl
  exact va_slen C.1 C.2.1 hX.1 hX.2.1 hX.2.2 hS hd (kk H locs ls hW hS hl)
end GL
set_option maxRecDepth 20000 in
theorem l_La_law_b1171 {E : EE} {X : CT} {G : Hp} {nS : Nat} {xS : Nat → Int32} {bs : Nat} (hX : gScr E X bs nS xS) (C : gCx E X cL_law "FavoursGoOffLaw" (some .boolean) 15 641 151 55703 false 4) {G' : Hp} (HR : ∀ {pc : Nat} {lv : List (Option Value)}, decode cL_law pc = .ok (.ireturn, 1) → gV E X 151 55703 G' pc lv [.int 1]) {k18 : Hp → Nat → Nat → Int32 → Option (Int32 × Hp)} (K18 : ∀ {G : Hp} {l1 : Nat} {l2 : Nat} {l3 : Int32}, k18 G l1 l2 l3 = some ((1 : Int32), G') → gV E X 151 55703 G 18 [some (.ref bs), some (.ref (E.2.1 + l1)), some (.ref (E.2.1 + l2)), some (.int l3)] []) {l1 : Nat} {l2 : Nat} {l3 : Int32} (hf : f_La_law_b1171 nS xS k18 G l1 l2 l3 = some ((1 : Int32), G')) : gV E X 151 55703 G 1171 [some (.ref bs), some (.ref (E.2.1 + l1)), some (.ref (E.2.1 + l2)), some (.int l3)] [] := by
  unfold f_La_law_b1171 at hf
  refine g_iinc (v := (l3 + 7)) (lv' := [some (.ref bs), some (.ref (E.2.1 + l1)), some (.ref (E.2.1 + l2)), some (.int (l3 + 7))]) C dL_law_1171 (by decide) rfl rfl rfl ?_
  refine g_goto (tgt := 18) C dL_law_1174 (by decide) ?_
  refine g_sub (lv' := [some (.ref bs), some (.ref (E.2.1 + l1)), some (.ref (E.2.1 + l2)), some (.int (l3 + 7))]) ⟨rfl, ⟨rfl, ⟨rfl, ⟨rfl, trivial⟩⟩⟩⟩ ?_
  exact K18 hf
set_option maxRecDepth 20000 in
theorem l_La_law_b18k {E : EE} {X : CT} {G : Hp} {nS : Nat} {xS : Nat → Int32} {bs : Nat} (hX : gScr E X bs nS xS) (C : gCx E X cL_law "FavoursGoOffLaw" (some .boolean) 15 641 151 55703 false 4) {G' : Hp} (HR : ∀ {pc : Nat} {lv : List (Option Value)}, decode cL_law pc = .ok (.ireturn, 1) → gV E X 151 55703 G' pc lv [.int 1]) {k18 : Hp → Nat → Nat → Int32 → Option (Int32 × Hp)} (K18 : ∀ {G : Hp} {l1 : Nat} {l2 : Nat} {l3 : Int32}, k18 G l1 l2 l3 = some ((1 : Int32), G') → gV E X 151 55703 G 18 [some (.ref bs), some (.ref (E.2.1 + l1)), some (.ref (E.2.1 + l2)), some (.int l3)] []) {l1 : Nat} {l2 : Nat} {l3 : Int32} (hf : f_La_law_b18_k nS xS k18 G l1 l2 l3 = some ((1 : Int32), G')) : gV E X 151 55703 G 18 [some (.ref bs), some (.ref (E.2.1 + l1)), some (.ref (E.2.1 + l2)), some (.int l3)] [] := by
  unfold f_La_law_b18_k at hf
  refine g_iload_n C dL_law_18 rfl ?_
  refine g_aload_n C dL_law_19 rfl ?_
  obtain ⟨x1, hx1, hf⟩ := xL_ok hf
  refine e_slen C hX dL_law_20 hx1 ?_
  refine g_bipush (v := (7 : Int32)) C dL_law_21 (by decide) ?_
  refine g_isub C dL_law_23 ?_
  refine g_icmp_gt (tgt := 1177) C dL_law_24 (by decide) (fun hc => ?_) (fun hc => ?_)
  · have hf := iteT hf hc
    refine g_iconst (v := (1 : Int32)) C dL_law_1177 (by decide) ?_
    obtain ⟨-, rfl⟩ := rH_ok hf
    exact HR dL_law_1178
  · have hf := iteF hf hc
    refine g_aload_n C dL_law_27 rfl ?_
    refine g_iload_n C dL_law_28 rfl ?_
    obtain ⟨x2, hx2, hg, hf⟩ := xI_ok hf
    refine e_sld C hX dL_law_29 hx2 hg ?_
    refine g_bipush (v := (63 : Int32)) C dL_law_30 (by decide) ?_
    refine g_iand C dL_law_32 ?_
    by_cases hc0 : (x2 &&& (63 : Int32)) = 0
    · have hf := iteT hf hc0
      refine g_tabIn (tgt := 196) C dL_law_33 0 (by rw [hc0]; rfl) (by decide) (by decide) rfl (by decide) ?_
      refine g_aload_n C dL_law_196 rfl ?_
      refine g_aload_n C dL_law_197 rfl ?_
      refine g_iload_n C dL_law_198 rfl ?_
      refine g_iconst (v := (1 : Int32)) C dL_law_199 (by decide) ?_
      refine g_iadd C dL_law_200 ?_
      obtain ⟨x3, hx3, hg, hf⟩ := xI_ok hf
      refine e_sld C hX dL_law_201 hx3 hg ?_
      obtain ⟨x4, G5, hg, h1, hf⟩ := vH_ok hf
      refine g_invV (As := [.int x3]) (st := []) C (c_Fa_people E h1) (rfl : vwCl[9]? = some (y_Fa_people.cls, TX9, 13)) (by decide) hg ml_La_13 cm_Fa_people.1 cm_Fa_people.2.1 cm_Fa_people.2.2.1 cm_Fa_people.2.2.2.1 cm_Fa_people.2.2.2.2 rfl ⟨by omega, by omega, by omega, by omega⟩ (by exact Nat.le_of_ble_eq_true rfl) rfl dL_law_202 ?_
      refine g_aload_n C dL_law_205 rfl ?_
      refine g_aload_n C dL_law_206 rfl ?_
      refine g_iload_n C dL_law_207 rfl ?_
      refine g_iconst (v := (1 : Int32)) C dL_law_208 (by decide) ?_
      refine g_iadd C dL_law_209 ?_
      obtain ⟨x6, hx6, hg, hf⟩ := xI_ok hf
      refine e_sld C hX dL_law_210 hx6 hg ?_
      obtain ⟨x7, G8, hg, h1, hf⟩ := vH_ok hf
      refine g_invV (As := [.int x6]) (st := [.int x4]) C (c_Mo_people E h1) (rfl : vwCl[10]? = some (y_Mo_people.cls, TX10, 24)) (by decide) hg ml_La_17 cm_Mo_people.1 cm_Mo_people.2.1 cm_Mo_people.2.2.1 cm_Mo_people.2.2.2.1 cm_Mo_people.2.2.2.2 rfl ⟨by omega, by omega, by omega, by omega⟩ (by exact Nat.le_of_ble_eq_true rfl) rfl dL_law_211 ?_
      refine g_icmp_eq (tgt := 1171) C dL_law_214 (by decide) (fun hc => ?_) (fun hc => ?_)
      · have hf := iteT hf hc
        refine g_sub (lv' := [some (.ref bs), some (.ref (E.2.1 + l1)), some (.ref (E.2.1 + l2)), some (.int l3)]) ⟨rfl, ⟨rfl, ⟨rfl, ⟨rfl, trivial⟩⟩⟩⟩ ?_
        exact l_La_law_b1171 hX C HR K18 hf
      · have hf := iteF hf hc
        refine g_iconst (v := (0 : Int32)) C dL_law_217 (by decide) ?_
        exact absurd (rH_ok hf).1 (by decide)
    · have hf := iteF hf hc0
      by_cases hc1 : (x2 &&& (63 : Int32)) = 1
      · have hf := iteT hf hc1
        refine g_tabIn (tgt := 219) C dL_law_33 1 (by rw [hc1]; rfl) (by decide) (by decide) rfl (by decide) ?_
        refine g_aload_n C dL_law_219 rfl ?_
        refine g_aload_n C dL_law_220 rfl ?_
        refine g_iload_n C dL_law_221 rfl ?_
        refine g_iconst (v := (1 : Int32)) C dL_law_222 (by decide) ?_
        refine g_iadd C dL_law_223 ?_
        obtain ⟨x9, hx9, hg, hf⟩ := xI_ok hf
        refine e_sld C hX dL_law_224 hx9 hg ?_
        refine g_aload_n C dL_law_225 rfl ?_
        refine g_iload_n C dL_law_226 rfl ?_
        refine g_iconst (v := (2 : Int32)) C dL_law_227 (by decide) ?_
        refine g_iadd C dL_law_228 ?_
        obtain ⟨x10, hx10, hg, hf⟩ := xI_ok hf
        refine e_sld C hX dL_law_229 hx10 hg ?_
        obtain ⟨x11, G12, hg, h1, hf⟩ := vH_ok hf
        refine g_invV (As := [.int x9, .int x10]) (st := []) C (c_Fa_strong E h1) (rfl : vwCl[9]? = some (y_Fa_strong.cls, TX9, 13)) (by decide) hg ml_La_18 cm_Fa_strong.1 cm_Fa_strong.2.1 cm_Fa_strong.2.2.1 cm_Fa_strong.2.2.2.1 cm_Fa_strong.2.2.2.2 rfl ⟨by omega, by omega, by omega, by omega⟩ (by exact Nat.le_of_ble_eq_true rfl) rfl dL_law_230 ?_
        refine g_aload_n C dL_law_233 rfl ?_
        refine g_aload_n C dL_law_234 rfl ?_
        refine g_iload_n C dL_law_235 rfl ?_
        refine g_iconst (v := (1 : Int32)) C dL_law_236 (by decide) ?_
        refine g_iadd C dL_law_237 ?_
        obtain ⟨x13, hx13, hg, hf⟩ := xI_ok hf
        refine e_sld C hX dL_law_238 hx13 hg ?_
        refine g_aload_n C dL_law_239 rfl ?_
        refine g_iload_n C dL_law_240 rfl ?_
        refine g_iconst (v := (2 : Int32)) C dL_law_241 (by decide) ?_
        refine g_iadd C dL_law_242 ?_
        obtain ⟨x14, hx14, hg, hf⟩ := xI_ok hf
        refine e_sld C hX dL_law_243 hx14 hg ?_
        obtain ⟨x15, G16, hg, h1, hf⟩ := vH_ok hf
        refine g_invV (As := [.int x13, .int x14]) (st := [.int x11]) C (c_Mo_strong E h1) (rfl : vwCl[10]? = some (y_Mo_strong.cls, TX10, 24)) (by decide) hg ml_La_22 cm_Mo_strong.1 cm_Mo_strong.2.1 cm_Mo_strong.2.2.1 cm_Mo_strong.2.2.2.1 cm_Mo_strong.2.2.2.2 rfl ⟨by omega, by omega, by omega, by omega⟩ (by exact Nat.le_of_ble_eq_true rfl) rfl dL_law_244 ?_
        refine g_icmp_eq (tgt := 1171) C dL_law_247 (by decide) (fun hc => ?_) (fun hc => ?_)
        · have hf := iteT hf hc
          refine g_sub (lv' := [some (.ref bs), some (.ref (E.2.1 + l1)), some (.ref (E.2.1 + l2)), some (.int l3)]) ⟨rfl, ⟨rfl, ⟨rfl, ⟨rfl, trivial⟩⟩⟩⟩ ?_
          exact l_La_law_b1171 hX C HR K18 hf
        · have hf := iteF hf hc
          refine g_iconst (v := (0 : Int32)) C dL_law_250 (by decide) ?_
          exact absurd (rH_ok hf).1 (by decide)
      · have hf := iteF hf hc1
        by_cases hc2 : (x2 &&& (63 : Int32)) = 2
        · have hf := iteT hf hc2
          refine g_tabIn (tgt := 252) C dL_law_33 2 (by rw [hc2]; rfl) (by decide) (by decide) rfl (by decide) ?_
          refine g_aload_n C dL_law_252 rfl ?_
          refine g_aload_n C dL_law_253 rfl ?_
          refine g_iload_n C dL_law_254 rfl ?_
          refine g_iconst (v := (1 : Int32)) C dL_law_255 (by decide) ?_
          refine g_iadd C dL_law_256 ?_
          obtain ⟨x17, hx17, hg, hf⟩ := xI_ok hf
          refine e_sld C hX dL_law_257 hx17 hg ?_
          refine g_aload_n C dL_law_258 rfl ?_
          refine g_iload_n C dL_law_259 rfl ?_
          refine g_iconst (v := (2 : Int32)) C dL_law_260 (by decide) ?_
          refine g_iadd C dL_law_261 ?_
          obtain ⟨x18, hx18, hg, hf⟩ := xI_ok hf
          refine e_sld C hX dL_law_262 hx18 hg ?_
          refine g_aload_n C dL_law_263 rfl ?_
          refine g_iload_n C dL_law_264 rfl ?_
          refine g_iconst (v := (3 : Int32)) C dL_law_265 (by decide) ?_
          refine g_iadd C dL_law_266 ?_
          obtain ⟨x19, hx19, hg, hf⟩ := xI_ok hf
          refine e_sld C hX dL_law_267 hx19 hg ?_
          refine g_aload_n C dL_law_268 rfl ?_
          refine g_iload_n C dL_law_269 rfl ?_
          refine g_iconst (v := (4 : Int32)) C dL_law_270 (by decide) ?_
          refine g_iadd C dL_law_271 ?_
          obtain ⟨x20, hx20, hg, hf⟩ := xI_ok hf
          refine e_sld C hX dL_law_272 hx20 hg ?_
          refine g_aload_n C dL_law_273 rfl ?_
          refine g_iload_n C dL_law_274 rfl ?_
          refine g_iconst (v := (5 : Int32)) C dL_law_275 (by decide) ?_
          refine g_iadd C dL_law_276 ?_
          obtain ⟨x21, hx21, hg, hf⟩ := xI_ok hf
          refine e_sld C hX dL_law_277 hx21 hg ?_
          refine g_aload_n C dL_law_278 rfl ?_
          refine g_iload_n C dL_law_279 rfl ?_
          refine g_bipush (v := (6 : Int32)) C dL_law_280 (by decide) ?_
          refine g_iadd C dL_law_282 ?_
          obtain ⟨x22, hx22, hg, hf⟩ := xI_ok hf
          refine e_sld C hX dL_law_283 hx22 hg ?_
          obtain ⟨x23, G24, hg, h1, hf⟩ := vH_ok hf
          refine g_invV (As := [.int x17, .int x18, .int x19, .int x20, .int x21, .int x22]) (st := []) C (c_Fa_favour E h1) (rfl : vwCl[9]? = some (y_Fa_favour.cls, TX9, 13)) (by decide) hg ml_La_23 cm_Fa_favour.1 cm_Fa_favour.2.1 cm_Fa_favour.2.2.1 cm_Fa_favour.2.2.2.1 cm_Fa_favour.2.2.2.2 rfl ⟨by omega, by omega, by omega, by omega⟩ (by exact Nat.le_of_ble_eq_true rfl) rfl dL_law_284 ?_
          refine g_aload_n C dL_law_287 rfl ?_
          refine g_aload_n C dL_law_288 rfl ?_
          refine g_iload_n C dL_law_289 rfl ?_
          refine g_iconst (v := (1 : Int32)) C dL_law_290 (by decide) ?_
          refine g_iadd C dL_law_291 ?_
          obtain ⟨x25, hx25, hg, hf⟩ := xI_ok hf
          refine e_sld C hX dL_law_292 hx25 hg ?_
          refine g_aload_n C dL_law_293 rfl ?_
          refine g_iload_n C dL_law_294 rfl ?_
          refine g_iconst (v := (2 : Int32)) C dL_law_295 (by decide) ?_
          refine g_iadd C dL_law_296 ?_
          obtain ⟨x26, hx26, hg, hf⟩ := xI_ok hf
          refine e_sld C hX dL_law_297 hx26 hg ?_
          refine g_aload_n C dL_law_298 rfl ?_
          refine g_iload_n C dL_law_299 rfl ?_
          refine g_iconst (v := (3 : Int32)) C dL_law_300 (by decide) ?_
          refine g_iadd C dL_law_301 ?_
          obtain ⟨x27, hx27, hg, hf⟩ := xI_ok hf
          refine e_sld C hX dL_law_302 hx27 hg ?_
          refine g_aload_n C dL_law_303 rfl ?_
          refine g_iload_n C dL_law_304 rfl ?_
          refine g_iconst (v := (4 : Int32)) C dL_law_305 (by decide) ?_
          refine g_iadd C dL_law_306 ?_
          obtain ⟨x28, hx28, hg, hf⟩ := xI_ok hf
          refine e_sld C hX dL_law_307 hx28 hg ?_
          refine g_aload_n C dL_law_308 rfl ?_
          refine g_iload_n C dL_law_309 rfl ?_
          refine g_iconst (v := (5 : Int32)) C dL_law_310 (by decide) ?_
          refine g_iadd C dL_law_311 ?_
          obtain ⟨x29, hx29, hg, hf⟩ := xI_ok hf
          refine e_sld C hX dL_law_312 hx29 hg ?_
          refine g_aload_n C dL_law_313 rfl ?_
          refine g_iload_n C dL_law_314 rfl ?_
          refine g_bipush (v := (6 : Int32)) C dL_law_315 (by decide) ?_
          refine g_iadd C dL_law_317 ?_
          obtain ⟨x30, hx30, hg, hf⟩ := xI_ok hf
          refine e_sld C hX dL_law_318 hx30 hg ?_
          obtain ⟨x31, G32, hg, h1, hf⟩ := vH_ok hf
          refine g_invV (As := [.int x25, .int x26, .int x27, .int x28, .int x29, .int x30]) (st := [.int x23]) C (c_Mo_favour E h1) (rfl : vwCl[10]? = some (y_Mo_favour.cls, TX10, 24)) (by decide) hg ml_La_27 cm_Mo_favour.1 cm_Mo_favour.2.1 cm_Mo_favour.2.2.1 cm_Mo_favour.2.2.2.1 cm_Mo_favour.2.2.2.2 rfl ⟨by omega, by omega, by omega, by omega⟩ (by exact Nat.le_of_ble_eq_true rfl) rfl dL_law_319 ?_
          refine g_icmp_eq (tgt := 1171) C dL_law_322 (by decide) (fun hc => ?_) (fun hc => ?_)
          · have hf := iteT hf hc
            refine g_sub (lv' := [some (.ref bs), some (.ref (E.2.1 + l1)), some (.ref (E.2.1 + l2)), some (.int l3)]) ⟨rfl, ⟨rfl, ⟨rfl, ⟨rfl, trivial⟩⟩⟩⟩ ?_
            exact l_La_law_b1171 hX C HR K18 hf
          · have hf := iteF hf hc
            refine g_iconst (v := (0 : Int32)) C dL_law_325 (by decide) ?_
            exact absurd (rH_ok hf).1 (by decide)
        · have hf := iteF hf hc2
          by_cases hc3 : (x2 &&& (63 : Int32)) = 3
          · have hf := iteT hf hc3
            refine g_tabIn (tgt := 327) C dL_law_33 3 (by rw [hc3]; rfl) (by decide) (by decide) rfl (by decide) ?_
            refine g_aload_n C dL_law_327 rfl ?_
            refine g_aload_n C dL_law_328 rfl ?_
            refine g_iload_n C dL_law_329 rfl ?_
            refine g_iconst (v := (1 : Int32)) C dL_law_330 (by decide) ?_
            refine g_iadd C dL_law_331 ?_
            obtain ⟨x33, hx33, hg, hf⟩ := xI_ok hf
            refine e_sld C hX dL_law_332 hx33 hg ?_
            refine g_aload_n C dL_law_333 rfl ?_
            refine g_iload_n C dL_law_334 rfl ?_
            refine g_iconst (v := (2 : Int32)) C dL_law_335 (by decide) ?_
            refine g_iadd C dL_law_336 ?_
            obtain ⟨x34, hx34, hg, hf⟩ := xI_ok hf
            refine e_sld C hX dL_law_337 hx34 hg ?_
            refine g_aload_n C dL_law_338 rfl ?_
            refine g_iload_n C dL_law_339 rfl ?_
            refine g_iconst (v := (3 : Int32)) C dL_law_340 (by decide) ?_
            refine g_iadd C dL_law_341 ?_
            obtain ⟨x35, hx35, hg, hf⟩ := xI_ok hf
            refine e_sld C hX dL_law_342 hx35 hg ?_
            refine g_aload_n C dL_law_343 rfl ?_
            refine g_iload_n C dL_law_344 rfl ?_
            refine g_iconst (v := (4 : Int32)) C dL_law_345 (by decide) ?_
            refine g_iadd C dL_law_346 ?_
            obtain ⟨x36, hx36, hg, hf⟩ := xI_ok hf
            refine e_sld C hX dL_law_347 hx36 hg ?_
            obtain ⟨x37, G38, hg, h1, hf⟩ := vH_ok hf
            refine g_invV (As := [.int x33, .int x34, .int x35, .int x36]) (st := []) C (c_Fa_need E h1) (rfl : vwCl[9]? = some (y_Fa_need.cls, TX9, 13)) (by decide) hg ml_La_28 cm_Fa_need.1 cm_Fa_need.2.1 cm_Fa_need.2.2.1 cm_Fa_need.2.2.2.1 cm_Fa_need.2.2.2.2 rfl ⟨by omega, by omega, by omega, by omega⟩ (by exact Nat.le_of_ble_eq_true rfl) rfl dL_law_348 ?_
            refine g_aload_n C dL_law_351 rfl ?_
            refine g_aload_n C dL_law_352 rfl ?_
            refine g_iload_n C dL_law_353 rfl ?_
            refine g_iconst (v := (1 : Int32)) C dL_law_354 (by decide) ?_
            refine g_iadd C dL_law_355 ?_
            obtain ⟨x39, hx39, hg, hf⟩ := xI_ok hf
            refine e_sld C hX dL_law_356 hx39 hg ?_
            refine g_aload_n C dL_law_357 rfl ?_
            refine g_iload_n C dL_law_358 rfl ?_
            refine g_iconst (v := (2 : Int32)) C dL_law_359 (by decide) ?_
            refine g_iadd C dL_law_360 ?_
            obtain ⟨x40, hx40, hg, hf⟩ := xI_ok hf
            refine e_sld C hX dL_law_361 hx40 hg ?_
            refine g_aload_n C dL_law_362 rfl ?_
            refine g_iload_n C dL_law_363 rfl ?_
            refine g_iconst (v := (3 : Int32)) C dL_law_364 (by decide) ?_
            refine g_iadd C dL_law_365 ?_
            obtain ⟨x41, hx41, hg, hf⟩ := xI_ok hf
            refine e_sld C hX dL_law_366 hx41 hg ?_
            refine g_aload_n C dL_law_367 rfl ?_
            refine g_iload_n C dL_law_368 rfl ?_
            refine g_iconst (v := (4 : Int32)) C dL_law_369 (by decide) ?_
            refine g_iadd C dL_law_370 ?_
            obtain ⟨x42, hx42, hg, hf⟩ := xI_ok hf
            refine e_sld C hX dL_law_371 hx42 hg ?_
            obtain ⟨x43, G44, hg, h1, hf⟩ := vH_ok hf
            refine g_invV (As := [.int x39, .int x40, .int x41, .int x42]) (st := [.int x37]) C (c_Mo_need E h1) (rfl : vwCl[10]? = some (y_Mo_need.cls, TX10, 24)) (by decide) hg ml_La_32 cm_Mo_need.1 cm_Mo_need.2.1 cm_Mo_need.2.2.1 cm_Mo_need.2.2.2.1 cm_Mo_need.2.2.2.2 rfl ⟨by omega, by omega, by omega, by omega⟩ (by exact Nat.le_of_ble_eq_true rfl) rfl dL_law_372 ?_
            refine g_icmp_eq (tgt := 1171) C dL_law_375 (by decide) (fun hc => ?_) (fun hc => ?_)
            · have hf := iteT hf hc
              refine g_sub (lv' := [some (.ref bs), some (.ref (E.2.1 + l1)), some (.ref (E.2.1 + l2)), some (.int l3)]) ⟨rfl, ⟨rfl, ⟨rfl, ⟨rfl, trivial⟩⟩⟩⟩ ?_
              exact l_La_law_b1171 hX C HR K18 hf
            · have hf := iteF hf hc
              refine g_iconst (v := (0 : Int32)) C dL_law_378 (by decide) ?_
              exact absurd (rH_ok hf).1 (by decide)
          · have hf := iteF hf hc3
            by_cases hc4 : (x2 &&& (63 : Int32)) = 4
            · have hf := iteT hf hc4
              refine g_tabIn (tgt := 380) C dL_law_33 4 (by rw [hc4]; rfl) (by decide) (by decide) rfl (by decide) ?_
              refine g_aload_n C dL_law_380 rfl ?_
              obtain ⟨x45, G46, hg, h1, hf⟩ := vH_ok hf
              refine g_invV (As := []) (st := []) C (c_Fa_contented E h1) (rfl : vwCl[9]? = some (y_Fa_contented.cls, TX9, 13)) (by decide) hg ml_La_33 cm_Fa_contented.1 cm_Fa_contented.2.1 cm_Fa_contented.2.2.1 cm_Fa_contented.2.2.2.1 cm_Fa_contented.2.2.2.2 rfl ⟨by omega, by omega, by omega, by omega⟩ (by exact Nat.le_of_ble_eq_true rfl) rfl dL_law_381 ?_
              refine g_aload_n C dL_law_384 rfl ?_
              obtain ⟨x47, G48, hg, h1, hf⟩ := vH_ok hf
              refine g_invV (As := []) (st := [.int x45]) C (c_Mo_contented E h1) (rfl : vwCl[10]? = some (y_Mo_contented.cls, TX10, 24)) (by decide) hg ml_La_37 cm_Mo_contented.1 cm_Mo_contented.2.1 cm_Mo_contented.2.2.1 cm_Mo_contented.2.2.2.1 cm_Mo_contented.2.2.2.2 rfl ⟨by omega, by omega, by omega, by omega⟩ (by exact Nat.le_of_ble_eq_true rfl) rfl dL_law_385 ?_
              refine g_icmp_eq (tgt := 1171) C dL_law_388 (by decide) (fun hc => ?_) (fun hc => ?_)
              · have hf := iteT hf hc
                refine g_sub (lv' := [some (.ref bs), some (.ref (E.2.1 + l1)), some (.ref (E.2.1 + l2)), some (.int l3)]) ⟨rfl, ⟨rfl, ⟨rfl, ⟨rfl, trivial⟩⟩⟩⟩ ?_
                exact l_La_law_b1171 hX C HR K18 hf
              · have hf := iteF hf hc
                refine g_iconst (v := (0 : Int32)) C dL_law_391 (by decide) ?_
                exact absurd (rH_ok hf).1 (by decide)
            · have hf := iteF hf hc4
              by_cases hc5 : (x2 &&& (63 : Int32)) = 5
              · have hf := iteT hf hc5
                refine g_tabIn (tgt := 393) C dL_law_33 5 (by rw [hc5]; rfl) (by decide) (by decide) rfl (by decide) ?_
                refine g_aload_n C dL_law_393 rfl ?_
                refine g_aload_n C dL_law_394 rfl ?_
                refine g_iload_n C dL_law_395 rfl ?_
                refine g_iconst (v := (1 : Int32)) C dL_law_396 (by decide) ?_
                refine g_iadd C dL_law_397 ?_
                obtain ⟨x49, hx49, hg, hf⟩ := xI_ok hf
                refine e_sld C hX dL_law_398 hx49 hg ?_
                refine g_i2l C dL_law_399 ?_
                refine g_bipush (v := (32 : Int32)) C dL_law_400 (by decide) ?_
                refine g_lshl C dL_law_402 ?_
                refine g_aload_n C dL_law_403 rfl ?_
                refine g_iload_n C dL_law_404 rfl ?_
                refine g_iconst (v := (2 : Int32)) C dL_law_405 (by decide) ?_
                refine g_iadd C dL_law_406 ?_
                obtain ⟨x50, hx50, hg, hf⟩ := xI_ok hf
                refine e_sld C hX dL_law_407 hx50 hg ?_
                refine g_i2l C dL_law_408 ?_
                refine g_ldc2 (v := (4294967295 : Int64)) C dL_law_409 kl_La_38 ?_
                refine g_land C dL_law_412 ?_
                refine g_lor C dL_law_413 ?_
                refine g_aload_n C dL_law_414 rfl ?_
                refine g_iload_n C dL_law_415 rfl ?_
                refine g_iconst (v := (3 : Int32)) C dL_law_416 (by decide) ?_
                refine g_iadd C dL_law_417 ?_
                obtain ⟨x51, hx51, hg, hf⟩ := xI_ok hf
                refine e_sld C hX dL_law_418 hx51 hg ?_
                obtain ⟨x52, G53, hg, h1, hf⟩ := vH_ok hf
                refine g_invV (As := [.long ((shlL x49.toInt64 (32 : Int32)) ||| (x50.toInt64 &&& (4294967295 : Int64))), .int x51]) (st := []) C (c_Fa_type E h1) (rfl : vwCl[9]? = some (y_Fa_type.cls, TX9, 13)) (by decide) hg ml_La_40 cm_Fa_type.1 cm_Fa_type.2.1 cm_Fa_type.2.2.1 cm_Fa_type.2.2.2.1 cm_Fa_type.2.2.2.2 rfl ⟨by omega, by omega, by omega, by omega⟩ (by exact Nat.le_of_ble_eq_true rfl) rfl dL_law_419 ?_
                refine g_aload_n C dL_law_422 rfl ?_
                refine g_aload_n C dL_law_423 rfl ?_
                refine g_iload_n C dL_law_424 rfl ?_
                refine g_iconst (v := (1 : Int32)) C dL_law_425 (by decide) ?_
                refine g_iadd C dL_law_426 ?_
                obtain ⟨x54, hx54, hg, hf⟩ := xI_ok hf
                refine e_sld C hX dL_law_427 hx54 hg ?_
                refine g_i2l C dL_law_428 ?_
                refine g_bipush (v := (32 : Int32)) C dL_law_429 (by decide) ?_
                refine g_lshl C dL_law_431 ?_
                refine g_aload_n C dL_law_432 rfl ?_
                refine g_iload_n C dL_law_433 rfl ?_
                refine g_iconst (v := (2 : Int32)) C dL_law_434 (by decide) ?_
                refine g_iadd C dL_law_435 ?_
                obtain ⟨x55, hx55, hg, hf⟩ := xI_ok hf
                refine e_sld C hX dL_law_436 hx55 hg ?_
                refine g_i2l C dL_law_437 ?_
                refine g_ldc2 (v := (4294967295 : Int64)) C dL_law_438 kl_La_38 ?_
                refine g_land C dL_law_441 ?_
                refine g_lor C dL_law_442 ?_
                refine g_aload_n C dL_law_443 rfl ?_
                refine g_iload_n C dL_law_444 rfl ?_
                refine g_iconst (v := (3 : Int32)) C dL_law_445 (by decide) ?_
                refine g_iadd C dL_law_446 ?_
                obtain ⟨x56, hx56, hg, hf⟩ := xI_ok hf
                refine e_sld C hX dL_law_447 hx56 hg ?_
                obtain ⟨x57, G58, hg, h1, hf⟩ := vH_ok hf
                refine g_invV (As := [.long ((shlL x54.toInt64 (32 : Int32)) ||| (x55.toInt64 &&& (4294967295 : Int64))), .int x56]) (st := [.int x52]) C (c_Mo_type E h1) (rfl : vwCl[10]? = some (y_Mo_type.cls, TX10, 24)) (by decide) hg ml_La_44 cm_Mo_type.1 cm_Mo_type.2.1 cm_Mo_type.2.2.1 cm_Mo_type.2.2.2.1 cm_Mo_type.2.2.2.2 rfl ⟨by omega, by omega, by omega, by omega⟩ (by exact Nat.le_of_ble_eq_true rfl) rfl dL_law_448 ?_
                refine g_icmp_eq (tgt := 1171) C dL_law_451 (by decide) (fun hc => ?_) (fun hc => ?_)
                · have hf := iteT hf hc
                  refine g_sub (lv' := [some (.ref bs), some (.ref (E.2.1 + l1)), some (.ref (E.2.1 + l2)), some (.int l3)]) ⟨rfl, ⟨rfl, ⟨rfl, ⟨rfl, trivial⟩⟩⟩⟩ ?_
                  exact l_La_law_b1171 hX C HR K18 hf
                · have hf := iteF hf hc
                  refine g_iconst (v := (0 : Int32)) C dL_law_454 (by decide) ?_
                  exact absurd (rH_ok hf).1 (by decide)
              · have hf := iteF hf hc5
                by_cases hc6 : (x2 &&& (63 : Int32)) = 6
                · have hf := iteT hf hc6
                  refine g_tabIn (tgt := 456) C dL_law_33 6 (by rw [hc6]; rfl) (by decide) (by decide) rfl (by decide) ?_
                  refine g_aload_n C dL_law_456 rfl ?_
                  obtain ⟨x59, G60, hg, h1, hf⟩ := vH_ok hf
                  refine g_invV (As := []) (st := []) C (c_Fa_clear E h1) (rfl : vwCl[9]? = some (y_Fa_clear.cls, TX9, 13)) (by decide) hg ml_La_45 cm_Fa_clear.1 cm_Fa_clear.2.1 cm_Fa_clear.2.2.1 cm_Fa_clear.2.2.2.1 cm_Fa_clear.2.2.2.2 rfl ⟨by omega, by omega, by omega, by omega⟩ (by exact Nat.le_of_ble_eq_true rfl) rfl dL_law_457 ?_
                  refine g_aload_n C dL_law_460 rfl ?_
                  obtain ⟨x61, G62, hg, h1, hf⟩ := vH_ok hf
                  refine g_invV (As := []) (st := [.int x59]) C (c_Mo_clear E h1) (rfl : vwCl[10]? = some (y_Mo_clear.cls, TX10, 24)) (by decide) hg ml_La_48 cm_Mo_clear.1 cm_Mo_clear.2.1 cm_Mo_clear.2.2.1 cm_Mo_clear.2.2.2.1 cm_Mo_clear.2.2.2.2 rfl ⟨by omega, by omega, by omega, by omega⟩ (by exact Nat.le_of_ble_eq_true rfl) rfl dL_law_461 ?_
                  refine g_icmp_eq (tgt := 1171) C dL_law_464 (by decide) (fun hc => ?_) (fun hc => ?_)
                  · have hf := iteT hf hc
                    refine g_sub (lv' := [some (.ref bs), some (.ref (E.2.1 + l1)), some (.ref (E.2.1 + l2)), some (.int l3)]) ⟨rfl, ⟨rfl, ⟨rfl, ⟨rfl, trivial⟩⟩⟩⟩ ?_
                    exact l_La_law_b1171 hX C HR K18 hf
                  · have hf := iteF hf hc
                    refine g_iconst (v := (0 : Int32)) C dL_law_467 (by decide) ?_
                    exact absurd (rH_ok hf).1 (by decide)
                · have hf := iteF hf hc6
                  by_cases hc7 : (x2 &&& (63 : Int32)) = 7
                  · have hf := iteT hf hc7
                    refine g_tabIn (tgt := 469) C dL_law_33 7 (by rw [hc7]; rfl) (by decide) (by decide) rfl (by decide) ?_
                    refine g_aload_n C dL_law_469 rfl ?_
                    obtain ⟨x63, G64, hg, h1, hf⟩ := vH_ok hf
                    refine g_invV (As := []) (st := []) C (c_Fa_read E h1) (rfl : vwCl[9]? = some (y_Fa_read.cls, TX9, 13)) (by decide) hg ml_La_49 cm_Fa_read.1 cm_Fa_read.2.1 cm_Fa_read.2.2.1 cm_Fa_read.2.2.2.1 cm_Fa_read.2.2.2.2 rfl ⟨by omega, by omega, by omega, by omega⟩ (by exact Nat.le_of_ble_eq_true rfl) rfl dL_law_470 ?_
                    refine g_aload_n C dL_law_473 rfl ?_
                    obtain ⟨x65, G66, hg, h1, hf⟩ := vH_ok hf
                    refine g_invV (As := []) (st := [.int x63]) C (c_Mo_read E h1) (rfl : vwCl[10]? = some (y_Mo_read.cls, TX10, 24)) (by decide) hg ml_La_52 cm_Mo_read.1 cm_Mo_read.2.1 cm_Mo_read.2.2.1 cm_Mo_read.2.2.2.1 cm_Mo_read.2.2.2.2 rfl ⟨by omega, by omega, by omega, by omega⟩ (by exact Nat.le_of_ble_eq_true rfl) rfl dL_law_474 ?_
                    refine g_icmp_eq (tgt := 1171) C dL_law_477 (by decide) (fun hc => ?_) (fun hc => ?_)
                    · have hf := iteT hf hc
                      refine g_sub (lv' := [some (.ref bs), some (.ref (E.2.1 + l1)), some (.ref (E.2.1 + l2)), some (.int l3)]) ⟨rfl, ⟨rfl, ⟨rfl, ⟨rfl, trivial⟩⟩⟩⟩ ?_
                      exact l_La_law_b1171 hX C HR K18 hf
                    · have hf := iteF hf hc
                      refine g_iconst (v := (0 : Int32)) C dL_law_480 (by decide) ?_
                      exact absurd (rH_ok hf).1 (by decide)
                  · have hf := iteF hf hc7
                    by_cases hc8 : (x2 &&& (63 : Int32)) = 8
                    · have hf := iteT hf hc8
                      refine g_tabIn (tgt := 482) C dL_law_33 8 (by rw [hc8]; rfl) (by decide) (by decide) rfl (by decide) ?_
                      refine g_aload_n C dL_law_482 rfl ?_
                      refine g_aload_n C dL_law_483 rfl ?_
                      refine g_iload_n C dL_law_484 rfl ?_
                      refine g_iconst (v := (1 : Int32)) C dL_law_485 (by decide) ?_
                      refine g_iadd C dL_law_486 ?_
                      obtain ⟨x67, hx67, hg, hf⟩ := xI_ok hf
                      refine e_sld C hX dL_law_487 hx67 hg ?_
                      refine g_aload_n C dL_law_488 rfl ?_
                      refine g_iload_n C dL_law_489 rfl ?_
                      refine g_iconst (v := (2 : Int32)) C dL_law_490 (by decide) ?_
                      refine g_iadd C dL_law_491 ?_
                      obtain ⟨x68, hx68, hg, hf⟩ := xI_ok hf
                      refine e_sld C hX dL_law_492 hx68 hg ?_
                      obtain ⟨x69, G70, hg, h1, hf⟩ := vH_ok hf
                      refine g_invV (As := [.int x67, .int x68]) (st := []) C (c_Fa_value E h1) (rfl : vwCl[9]? = some (y_Fa_value.cls, TX9, 13)) (by decide) hg ml_La_53 cm_Fa_value.1 cm_Fa_value.2.1 cm_Fa_value.2.2.1 cm_Fa_value.2.2.2.1 cm_Fa_value.2.2.2.2 rfl ⟨by omega, by omega, by omega, by omega⟩ (by exact Nat.le_of_ble_eq_true rfl) rfl dL_law_493 ?_
                      refine g_aload_n C dL_law_496 rfl ?_
                      refine g_aload_n C dL_law_497 rfl ?_
                      refine g_iload_n C dL_law_498 rfl ?_
                      refine g_iconst (v := (1 : Int32)) C dL_law_499 (by decide) ?_
                      refine g_iadd C dL_law_500 ?_
                      obtain ⟨x71, hx71, hg, hf⟩ := xI_ok hf
                      refine e_sld C hX dL_law_501 hx71 hg ?_
                      refine g_aload_n C dL_law_502 rfl ?_
                      refine g_iload_n C dL_law_503 rfl ?_
                      refine g_iconst (v := (2 : Int32)) C dL_law_504 (by decide) ?_
                      refine g_iadd C dL_law_505 ?_
                      obtain ⟨x72, hx72, hg, hf⟩ := xI_ok hf
                      refine e_sld C hX dL_law_506 hx72 hg ?_
                      obtain ⟨x73, G74, hg, h1, hf⟩ := vH_ok hf
                      refine g_invV (As := [.int x71, .int x72]) (st := [.int x69]) C (c_Mo_value E h1) (rfl : vwCl[10]? = some (y_Mo_value.cls, TX10, 24)) (by decide) hg ml_La_56 cm_Mo_value.1 cm_Mo_value.2.1 cm_Mo_value.2.2.1 cm_Mo_value.2.2.2.1 cm_Mo_value.2.2.2.2 rfl ⟨by omega, by omega, by omega, by omega⟩ (by exact Nat.le_of_ble_eq_true rfl) rfl dL_law_507 ?_
                      refine g_icmp_eq (tgt := 1171) C dL_law_510 (by decide) (fun hc => ?_) (fun hc => ?_)
                      · have hf := iteT hf hc
                        refine g_sub (lv' := [some (.ref bs), some (.ref (E.2.1 + l1)), some (.ref (E.2.1 + l2)), some (.int l3)]) ⟨rfl, ⟨rfl, ⟨rfl, ⟨rfl, trivial⟩⟩⟩⟩ ?_
                        exact l_La_law_b1171 hX C HR K18 hf
                      · have hf := iteF hf hc
                        refine g_iconst (v := (0 : Int32)) C dL_law_513 (by decide) ?_
                        exact absurd (rH_ok hf).1 (by decide)
                    · have hf := iteF hf hc8
                      by_cases hc9 : (x2 &&& (63 : Int32)) = 9
                      · have hf := iteT hf hc9
                        refine g_tabIn (tgt := 515) C dL_law_33 9 (by rw [hc9]; rfl) (by decide) (by decide) rfl (by decide) ?_
                        refine g_aload_n C dL_law_515 rfl ?_
                        refine g_aload_n C dL_law_516 rfl ?_
                        refine g_iload_n C dL_law_517 rfl ?_
                        refine g_iconst (v := (1 : Int32)) C dL_law_518 (by decide) ?_
                        refine g_iadd C dL_law_519 ?_
                        obtain ⟨x75, hx75, hg, hf⟩ := xI_ok hf
                        refine e_sld C hX dL_law_520 hx75 hg ?_
                        obtain ⟨x76, G77, hg, h1, hf⟩ := vH_ok hf
                        refine g_invV (As := [.int x75]) (st := []) C (c_Fa_of E h1) (rfl : vwCl[9]? = some (y_Fa_of.cls, TX9, 13)) (by decide) hg ml_La_57 cm_Fa_of.1 cm_Fa_of.2.1 cm_Fa_of.2.2.1 cm_Fa_of.2.2.2.1 cm_Fa_of.2.2.2.2 rfl ⟨by omega, by omega, by omega, by omega⟩ (by exact Nat.le_of_ble_eq_true rfl) rfl dL_law_521 ?_
                        refine g_aload_n C dL_law_524 rfl ?_
                        refine g_aload_n C dL_law_525 rfl ?_
                        refine g_iload_n C dL_law_526 rfl ?_
                        refine g_iconst (v := (1 : Int32)) C dL_law_527 (by decide) ?_
                        refine g_iadd C dL_law_528 ?_
                        obtain ⟨x78, hx78, hg, hf⟩ := xI_ok hf
                        refine e_sld C hX dL_law_529 hx78 hg ?_
                        obtain ⟨x79, G80, hg, h1, hf⟩ := vH_ok hf
                        refine g_invV (As := [.int x78]) (st := [.int x76]) C (c_Mo_of E h1) (rfl : vwCl[10]? = some (y_Mo_of.cls, TX10, 24)) (by decide) hg ml_La_60 cm_Mo_of.1 cm_Mo_of.2.1 cm_Mo_of.2.2.1 cm_Mo_of.2.2.2.1 cm_Mo_of.2.2.2.2 rfl ⟨by omega, by omega, by omega, by omega⟩ (by exact Nat.le_of_ble_eq_true rfl) rfl dL_law_530 ?_
                        refine g_icmp_eq (tgt := 1171) C dL_law_533 (by decide) (fun hc => ?_) (fun hc => ?_)
                        · have hf := iteT hf hc
                          refine g_sub (lv' := [some (.ref bs), some (.ref (E.2.1 + l1)), some (.ref (E.2.1 + l2)), some (.int l3)]) ⟨rfl, ⟨rfl, ⟨rfl, ⟨rfl, trivial⟩⟩⟩⟩ ?_
                          exact l_La_law_b1171 hX C HR K18 hf
                        · have hf := iteF hf hc
                          refine g_iconst (v := (0 : Int32)) C dL_law_536 (by decide) ?_
                          exact absurd (rH_ok hf).1 (by decide)
                      · have hf := iteF hf hc9
                        by_cases hc10 : (x2 &&& (63 : Int32)) = 10
                        · have hf := iteT hf hc10
                          refine g_tabIn (tgt := 538) C dL_law_33 10 (by rw [hc10]; rfl) (by decide) (by decide) rfl (by decide) ?_
                          refine g_aload_n C dL_law_538 rfl ?_
                          refine g_aload_n C dL_law_539 rfl ?_
                          refine g_iload_n C dL_law_540 rfl ?_
                          refine g_iconst (v := (1 : Int32)) C dL_law_541 (by decide) ?_
                          refine g_iadd C dL_law_542 ?_
                          obtain ⟨x81, hx81, hg, hf⟩ := xI_ok hf
                          refine e_sld C hX dL_law_543 hx81 hg ?_
                          refine g_aload_n C dL_law_544 rfl ?_
                          refine g_iload_n C dL_law_545 rfl ?_
                          refine g_iconst (v := (2 : Int32)) C dL_law_546 (by decide) ?_
                          refine g_iadd C dL_law_547 ?_
                          obtain ⟨x82, hx82, hg, hf⟩ := xI_ok hf
                          refine e_sld C hX dL_law_548 hx82 hg ?_
                          obtain ⟨x83, G84, hg, h1, hf⟩ := vH_ok hf
                          refine g_invV (As := [.int x81, .int x82]) (st := []) C (c_Fa_pass E h1) (rfl : vwCl[9]? = some (y_Fa_pass.cls, TX9, 13)) (by decide) hg ml_La_61 cm_Fa_pass.1 cm_Fa_pass.2.1 cm_Fa_pass.2.2.1 cm_Fa_pass.2.2.2.1 cm_Fa_pass.2.2.2.2 rfl ⟨by omega, by omega, by omega, by omega⟩ (by exact Nat.le_of_ble_eq_true rfl) rfl dL_law_549 ?_
                          refine g_aload_n C dL_law_552 rfl ?_
                          refine g_aload_n C dL_law_553 rfl ?_
                          refine g_iload_n C dL_law_554 rfl ?_
                          refine g_iconst (v := (1 : Int32)) C dL_law_555 (by decide) ?_
                          refine g_iadd C dL_law_556 ?_
                          obtain ⟨x85, hx85, hg, hf⟩ := xI_ok hf
                          refine e_sld C hX dL_law_557 hx85 hg ?_
                          refine g_aload_n C dL_law_558 rfl ?_
                          refine g_iload_n C dL_law_559 rfl ?_
                          refine g_iconst (v := (2 : Int32)) C dL_law_560 (by decide) ?_
                          refine g_iadd C dL_law_561 ?_
                          obtain ⟨x86, hx86, hg, hf⟩ := xI_ok hf
                          refine e_sld C hX dL_law_562 hx86 hg ?_
                          obtain ⟨x87, G88, hg, h1, hf⟩ := vH_ok hf
                          refine g_invV (As := [.int x85, .int x86]) (st := [.int x83]) C (c_Mo_pass E h1) (rfl : vwCl[10]? = some (y_Mo_pass.cls, TX10, 24)) (by decide) hg ml_La_64 cm_Mo_pass.1 cm_Mo_pass.2.1 cm_Mo_pass.2.2.1 cm_Mo_pass.2.2.2.1 cm_Mo_pass.2.2.2.2 rfl ⟨by omega, by omega, by omega, by omega⟩ (by exact Nat.le_of_ble_eq_true rfl) rfl dL_law_563 ?_
                          refine g_icmp_eq (tgt := 1171) C dL_law_566 (by decide) (fun hc => ?_) (fun hc => ?_)
                          · have hf := iteT hf hc
                            refine g_sub (lv' := [some (.ref bs), some (.ref (E.2.1 + l1)), some (.ref (E.2.1 + l2)), some (.int l3)]) ⟨rfl, ⟨rfl, ⟨rfl, ⟨rfl, trivial⟩⟩⟩⟩ ?_
                            exact l_La_law_b1171 hX C HR K18 hf
                          · have hf := iteF hf hc
                            refine g_iconst (v := (0 : Int32)) C dL_law_569 (by decide) ?_
                            exact absurd (rH_ok hf).1 (by decide)
                        · have hf := iteF hf hc10
                          by_cases hc11 : (x2 &&& (63 : Int32)) = 11
                          · have hf := iteT hf hc11
                            refine g_tabIn (tgt := 571) C dL_law_33 11 (by rw [hc11]; rfl) (by decide) (by decide) rfl (by decide) ?_
                            refine g_aload_n C dL_law_571 rfl ?_
                            refine g_aload_n C dL_law_572 rfl ?_
                            refine g_iload_n C dL_law_573 rfl ?_
                            refine g_iconst (v := (1 : Int32)) C dL_law_574 (by decide) ?_
                            refine g_iadd C dL_law_575 ?_
                            obtain ⟨x89, hx89, hg, hf⟩ := xI_ok hf
                            refine e_sld C hX dL_law_576 hx89 hg ?_
                            refine g_aload_n C dL_law_577 rfl ?_
                            refine g_iload_n C dL_law_578 rfl ?_
                            refine g_iconst (v := (2 : Int32)) C dL_law_579 (by decide) ?_
                            refine g_iadd C dL_law_580 ?_
                            obtain ⟨x90, hx90, hg, hf⟩ := xI_ok hf
                            refine e_sld C hX dL_law_581 hx90 hg ?_
                            obtain ⟨x91, G92, hg, h1, hf⟩ := vH_ok hf
                            refine g_invV (As := [.int x89, .int x90]) (st := []) C (c_Fa_join E h1) (rfl : vwCl[9]? = some (y_Fa_join.cls, TX9, 13)) (by decide) hg ml_La_65 cm_Fa_join.1 cm_Fa_join.2.1 cm_Fa_join.2.2.1 cm_Fa_join.2.2.2.1 cm_Fa_join.2.2.2.2 rfl ⟨by omega, by omega, by omega, by omega⟩ (by exact Nat.le_of_ble_eq_true rfl) rfl dL_law_582 ?_
                            refine g_aload_n C dL_law_585 rfl ?_
                            refine g_aload_n C dL_law_586 rfl ?_
                            refine g_iload_n C dL_law_587 rfl ?_
                            refine g_iconst (v := (1 : Int32)) C dL_law_588 (by decide) ?_
                            refine g_iadd C dL_law_589 ?_
                            obtain ⟨x93, hx93, hg, hf⟩ := xI_ok hf
                            refine e_sld C hX dL_law_590 hx93 hg ?_
                            refine g_aload_n C dL_law_591 rfl ?_
                            refine g_iload_n C dL_law_592 rfl ?_
                            refine g_iconst (v := (2 : Int32)) C dL_law_593 (by decide) ?_
                            refine g_iadd C dL_law_594 ?_
                            obtain ⟨x94, hx94, hg, hf⟩ := xI_ok hf
                            refine e_sld C hX dL_law_595 hx94 hg ?_
                            obtain ⟨x95, G96, hg, h1, hf⟩ := vH_ok hf
                            refine g_invV (As := [.int x93, .int x94]) (st := [.int x91]) C (c_Mo_join E h1) (rfl : vwCl[10]? = some (y_Mo_join.cls, TX10, 24)) (by decide) hg ml_La_68 cm_Mo_join.1 cm_Mo_join.2.1 cm_Mo_join.2.2.1 cm_Mo_join.2.2.2.1 cm_Mo_join.2.2.2.2 rfl ⟨by omega, by omega, by omega, by omega⟩ (by exact Nat.le_of_ble_eq_true rfl) rfl dL_law_596 ?_
                            refine g_icmp_eq (tgt := 1171) C dL_law_599 (by decide) (fun hc => ?_) (fun hc => ?_)
                            · have hf := iteT hf hc
                              refine g_sub (lv' := [some (.ref bs), some (.ref (E.2.1 + l1)), some (.ref (E.2.1 + l2)), some (.int l3)]) ⟨rfl, ⟨rfl, ⟨rfl, ⟨rfl, trivial⟩⟩⟩⟩ ?_
                              exact l_La_law_b1171 hX C HR K18 hf
                            · have hf := iteF hf hc
                              refine g_iconst (v := (0 : Int32)) C dL_law_602 (by decide) ?_
                              exact absurd (rH_ok hf).1 (by decide)
                          · have hf := iteF hf hc11
                            by_cases hc12 : (x2 &&& (63 : Int32)) = 12
                            · have hf := iteT hf hc12
                              refine g_tabIn (tgt := 604) C dL_law_33 12 (by rw [hc12]; rfl) (by decide) (by decide) rfl (by decide) ?_
                              refine g_aload_n C dL_law_604 rfl ?_
                              refine g_aload_n C dL_law_605 rfl ?_
                              refine g_iload_n C dL_law_606 rfl ?_
                              refine g_iconst (v := (1 : Int32)) C dL_law_607 (by decide) ?_
                              refine g_iadd C dL_law_608 ?_
                              obtain ⟨x97, hx97, hg, hf⟩ := xI_ok hf
                              refine e_sld C hX dL_law_609 hx97 hg ?_
                              obtain ⟨x98, G99, hg, h1, hf⟩ := vH_ok hf
                              refine g_invV (As := [.int x97]) (st := []) C (c_Fa_ask E h1) (rfl : vwCl[9]? = some (y_Fa_ask.cls, TX9, 13)) (by decide) hg ml_La_69 cm_Fa_ask.1 cm_Fa_ask.2.1 cm_Fa_ask.2.2.1 cm_Fa_ask.2.2.2.1 cm_Fa_ask.2.2.2.2 rfl ⟨by omega, by omega, by omega, by omega⟩ (by exact Nat.le_of_ble_eq_true rfl) rfl dL_law_610 ?_
                              refine g_aload_n C dL_law_613 rfl ?_
                              refine g_aload_n C dL_law_614 rfl ?_
                              refine g_iload_n C dL_law_615 rfl ?_
                              refine g_iconst (v := (1 : Int32)) C dL_law_616 (by decide) ?_
                              refine g_iadd C dL_law_617 ?_
                              obtain ⟨x100, hx100, hg, hf⟩ := xI_ok hf
                              refine e_sld C hX dL_law_618 hx100 hg ?_
                              obtain ⟨x101, G102, hg, h1, hf⟩ := vH_ok hf
                              refine g_invV (As := [.int x100]) (st := [.int x98]) C (c_Mo_ask E h1) (rfl : vwCl[10]? = some (y_Mo_ask.cls, TX10, 24)) (by decide) hg ml_La_72 cm_Mo_ask.1 cm_Mo_ask.2.1 cm_Mo_ask.2.2.1 cm_Mo_ask.2.2.2.1 cm_Mo_ask.2.2.2.2 rfl ⟨by omega, by omega, by omega, by omega⟩ (by exact Nat.le_of_ble_eq_true rfl) rfl dL_law_619 ?_
                              refine g_icmp_eq (tgt := 1171) C dL_law_622 (by decide) (fun hc => ?_) (fun hc => ?_)
                              · have hf := iteT hf hc
                                refine g_sub (lv' := [some (.ref bs), some (.ref (E.2.1 + l1)), some (.ref (E.2.1 + l2)), some (.int l3)]) ⟨rfl, ⟨rfl, ⟨rfl, ⟨rfl, trivial⟩⟩⟩⟩ ?_
                                exact l_La_law_b1171 hX C HR K18 hf
                              · have hf := iteF hf hc
                                refine g_iconst (v := (0 : Int32)) C dL_law_625 (by decide) ?_
                                exact absurd (rH_ok hf).1 (by decide)
                            · have hf := iteF hf hc12
                              by_cases hc13 : (x2 &&& (63 : Int32)) = 13
                              · have hf := iteT hf hc13
                                refine g_tabIn (tgt := 627) C dL_law_33 13 (by rw [hc13]; rfl) (by decide) (by decide) rfl (by decide) ?_
                                refine g_aload_n C dL_law_627 rfl ?_
                                obtain ⟨x103, G104, hg, h1, hf⟩ := vH_ok hf
                                refine g_invV (As := []) (st := []) C (c_Fa_night E h1) (rfl : vwCl[9]? = some (y_Fa_night.cls, TX9, 13)) (by decide) hg ml_La_73 cm_Fa_night.1 cm_Fa_night.2.1 cm_Fa_night.2.2.1 cm_Fa_night.2.2.2.1 cm_Fa_night.2.2.2.2 rfl ⟨by omega, by omega, by omega, by omega⟩ (by exact Nat.le_of_ble_eq_true rfl) rfl dL_law_628 ?_
                                refine g_aload_n C dL_law_631 rfl ?_
                                obtain ⟨x105, G106, hg, h1, hf⟩ := vH_ok hf
                                refine g_invV (As := []) (st := [.int x103]) C (c_Mo_night E h1) (rfl : vwCl[10]? = some (y_Mo_night.cls, TX10, 24)) (by decide) hg ml_La_76 cm_Mo_night.1 cm_Mo_night.2.1 cm_Mo_night.2.2.1 cm_Mo_night.2.2.2.1 cm_Mo_night.2.2.2.2 rfl ⟨by omega, by omega, by omega, by omega⟩ (by exact Nat.le_of_ble_eq_true rfl) rfl dL_law_632 ?_
                                refine g_icmp_eq (tgt := 1171) C dL_law_635 (by decide) (fun hc => ?_) (fun hc => ?_)
                                · have hf := iteT hf hc
                                  refine g_sub (lv' := [some (.ref bs), some (.ref (E.2.1 + l1)), some (.ref (E.2.1 + l2)), some (.int l3)]) ⟨rfl, ⟨rfl, ⟨rfl, ⟨rfl, trivial⟩⟩⟩⟩ ?_
                                  exact l_La_law_b1171 hX C HR K18 hf
                                · have hf := iteF hf hc
                                  refine g_iconst (v := (0 : Int32)) C dL_law_638 (by decide) ?_
                                  exact absurd (rH_ok hf).1 (by decide)
                              · have hf := iteF hf hc13
                                by_cases hc14 : (x2 &&& (63 : Int32)) = 14
                                · have hf := iteT hf hc14
                                  refine g_tabIn (tgt := 640) C dL_law_33 14 (by rw [hc14]; rfl) (by decide) (by decide) rfl (by decide) ?_
                                  refine g_aload_n C dL_law_640 rfl ?_
                                  obtain ⟨x107, G108, hg, h1, hf⟩ := vH_ok hf
                                  refine g_invV (As := []) (st := []) C (c_Fa_undo E h1) (rfl : vwCl[9]? = some (y_Fa_undo.cls, TX9, 13)) (by decide) hg ml_La_77 cm_Fa_undo.1 cm_Fa_undo.2.1 cm_Fa_undo.2.2.1 cm_Fa_undo.2.2.2.1 cm_Fa_undo.2.2.2.2 rfl ⟨by omega, by omega, by omega, by omega⟩ (by exact Nat.le_of_ble_eq_true rfl) rfl dL_law_641 ?_
                                  refine g_aload_n C dL_law_644 rfl ?_
                                  obtain ⟨x109, G110, hg, h1, hf⟩ := vH_ok hf
                                  refine g_invV (As := []) (st := [.int x107]) C (c_Mo_undo E h1) (rfl : vwCl[10]? = some (y_Mo_undo.cls, TX10, 24)) (by decide) hg ml_La_80 cm_Mo_undo.1 cm_Mo_undo.2.1 cm_Mo_undo.2.2.1 cm_Mo_undo.2.2.2.1 cm_Mo_undo.2.2.2.2 rfl ⟨by omega, by omega, by omega, by omega⟩ (by exact Nat.le_of_ble_eq_true rfl) rfl dL_law_645 ?_
                                  refine g_icmp_eq (tgt := 1171) C dL_law_648 (by decide) (fun hc => ?_) (fun hc => ?_)
                                  · have hf := iteT hf hc
                                    refine g_sub (lv' := [some (.ref bs), some (.ref (E.2.1 + l1)), some (.ref (E.2.1 + l2)), some (.int l3)]) ⟨rfl, ⟨rfl, ⟨rfl, ⟨rfl, trivial⟩⟩⟩⟩ ?_
                                    exact l_La_law_b1171 hX C HR K18 hf
                                  · have hf := iteF hf hc
                                    refine g_iconst (v := (0 : Int32)) C dL_law_651 (by decide) ?_
                                    exact absurd (rH_ok hf).1 (by decide)
                                · have hf := iteF hf hc14
                                  by_cases hc15 : (x2 &&& (63 : Int32)) = 15
                                  · have hf := iteT hf hc15
                                    refine g_tabIn (tgt := 653) C dL_law_33 15 (by rw [hc15]; rfl) (by decide) (by decide) rfl (by decide) ?_
                                    refine g_aload_n C dL_law_653 rfl ?_
                                    refine g_aload_n C dL_law_654 rfl ?_
                                    refine g_iload_n C dL_law_655 rfl ?_
                                    refine g_iconst (v := (1 : Int32)) C dL_law_656 (by decide) ?_
                                    refine g_iadd C dL_law_657 ?_
                                    obtain ⟨x111, hx111, hg, hf⟩ := xI_ok hf
                                    refine e_sld C hX dL_law_658 hx111 hg ?_
                                    refine g_aload_n C dL_law_659 rfl ?_
                                    refine g_iload_n C dL_law_660 rfl ?_
                                    refine g_iconst (v := (2 : Int32)) C dL_law_661 (by decide) ?_
                                    refine g_iadd C dL_law_662 ?_
                                    obtain ⟨x112, hx112, hg, hf⟩ := xI_ok hf
                                    refine e_sld C hX dL_law_663 hx112 hg ?_
                                    obtain ⟨x113, G114, hg, h1, hf⟩ := vH_ok hf
                                    refine g_invV (As := [.int x111, .int x112]) (st := []) C (c_Fa_owes E h1) (rfl : vwCl[9]? = some (y_Fa_owes.cls, TX9, 13)) (by decide) hg ml_La_81 cm_Fa_owes.1 cm_Fa_owes.2.1 cm_Fa_owes.2.2.1 cm_Fa_owes.2.2.2.1 cm_Fa_owes.2.2.2.2 rfl ⟨by omega, by omega, by omega, by omega⟩ (by exact Nat.le_of_ble_eq_true rfl) rfl dL_law_664 ?_
                                    refine g_aload_n C dL_law_667 rfl ?_
                                    refine g_aload_n C dL_law_668 rfl ?_
                                    refine g_iload_n C dL_law_669 rfl ?_
                                    refine g_iconst (v := (1 : Int32)) C dL_law_670 (by decide) ?_
                                    refine g_iadd C dL_law_671 ?_
                                    obtain ⟨x115, hx115, hg, hf⟩ := xI_ok hf
                                    refine e_sld C hX dL_law_672 hx115 hg ?_
                                    refine g_aload_n C dL_law_673 rfl ?_
                                    refine g_iload_n C dL_law_674 rfl ?_
                                    refine g_iconst (v := (2 : Int32)) C dL_law_675 (by decide) ?_
                                    refine g_iadd C dL_law_676 ?_
                                    obtain ⟨x116, hx116, hg, hf⟩ := xI_ok hf
                                    refine e_sld C hX dL_law_677 hx116 hg ?_
                                    obtain ⟨x117, G118, hg, h1, hf⟩ := vH_ok hf
                                    refine g_invV (As := [.int x115, .int x116]) (st := [.int x113]) C (c_Mo_owes E h1) (rfl : vwCl[10]? = some (y_Mo_owes.cls, TX10, 24)) (by decide) hg ml_La_84 cm_Mo_owes.1 cm_Mo_owes.2.1 cm_Mo_owes.2.2.1 cm_Mo_owes.2.2.2.1 cm_Mo_owes.2.2.2.2 rfl ⟨by omega, by omega, by omega, by omega⟩ (by exact Nat.le_of_ble_eq_true rfl) rfl dL_law_678 ?_
                                    refine g_icmp_eq (tgt := 1171) C dL_law_681 (by decide) (fun hc => ?_) (fun hc => ?_)
                                    · have hf := iteT hf hc
                                      refine g_sub (lv' := [some (.ref bs), some (.ref (E.2.1 + l1)), some (.ref (E.2.1 + l2)), some (.int l3)]) ⟨rfl, ⟨rfl, ⟨rfl, ⟨rfl, trivial⟩⟩⟩⟩ ?_
                                      exact l_La_law_b1171 hX C HR K18 hf
                                    · have hf := iteF hf hc
                                      refine g_iconst (v := (0 : Int32)) C dL_law_684 (by decide) ?_
                                      exact absurd (rH_ok hf).1 (by decide)
                                  · have hf := iteF hf hc15
                                    by_cases hc16 : (x2 &&& (63 : Int32)) = 16
                                    · have hf := iteT hf hc16
                                      refine g_tabIn (tgt := 686) C dL_law_33 16 (by rw [hc16]; rfl) (by decide) (by decide) rfl (by decide) ?_
                                      refine g_aload_n C dL_law_686 rfl ?_
                                      refine g_aload_n C dL_law_687 rfl ?_
                                      refine g_iload_n C dL_law_688 rfl ?_
                                      refine g_iconst (v := (1 : Int32)) C dL_law_689 (by decide) ?_
                                      refine g_iadd C dL_law_690 ?_
                                      obtain ⟨x119, hx119, hg, hf⟩ := xI_ok hf
                                      refine e_sld C hX dL_law_691 hx119 hg ?_
                                      obtain ⟨x120, G121, hg, h1, hf⟩ := vH_ok hf
                                      refine g_invV (As := [.int x119]) (st := []) C (c_Fa_ring E h1) (rfl : vwCl[9]? = some (y_Fa_ring.cls, TX9, 13)) (by decide) hg ml_La_85 cm_Fa_ring.1 cm_Fa_ring.2.1 cm_Fa_ring.2.2.1 cm_Fa_ring.2.2.2.1 cm_Fa_ring.2.2.2.2 rfl ⟨by omega, by omega, by omega, by omega⟩ (by exact Nat.le_of_ble_eq_true rfl) rfl dL_law_692 ?_
                                      refine g_aload_n C dL_law_695 rfl ?_
                                      refine g_aload_n C dL_law_696 rfl ?_
                                      refine g_iload_n C dL_law_697 rfl ?_
                                      refine g_iconst (v := (1 : Int32)) C dL_law_698 (by decide) ?_
                                      refine g_iadd C dL_law_699 ?_
                                      obtain ⟨x122, hx122, hg, hf⟩ := xI_ok hf
                                      refine e_sld C hX dL_law_700 hx122 hg ?_
                                      obtain ⟨x123, G124, hg, h1, hf⟩ := vH_ok hf
                                      refine g_invV (As := [.int x122]) (st := [.int x120]) C (c_Mo_ring E h1) (rfl : vwCl[10]? = some (y_Mo_ring.cls, TX10, 24)) (by decide) hg ml_La_88 cm_Mo_ring.1 cm_Mo_ring.2.1 cm_Mo_ring.2.2.1 cm_Mo_ring.2.2.2.1 cm_Mo_ring.2.2.2.2 rfl ⟨by omega, by omega, by omega, by omega⟩ (by exact Nat.le_of_ble_eq_true rfl) rfl dL_law_701 ?_
                                      refine g_icmp_eq (tgt := 1171) C dL_law_704 (by decide) (fun hc => ?_) (fun hc => ?_)
                                      · have hf := iteT hf hc
                                        refine g_sub (lv' := [some (.ref bs), some (.ref (E.2.1 + l1)), some (.ref (E.2.1 + l2)), some (.int l3)]) ⟨rfl, ⟨rfl, ⟨rfl, ⟨rfl, trivial⟩⟩⟩⟩ ?_
                                        exact l_La_law_b1171 hX C HR K18 hf
                                      · have hf := iteF hf hc
                                        refine g_iconst (v := (0 : Int32)) C dL_law_707 (by decide) ?_
                                        exact absurd (rH_ok hf).1 (by decide)
                                    · have hf := iteF hf hc16
                                      by_cases hc17 : (x2 &&& (63 : Int32)) = 17
                                      · have hf := iteT hf hc17
                                        refine g_tabIn (tgt := 709) C dL_law_33 17 (by rw [hc17]; rfl) (by decide) (by decide) rfl (by decide) ?_
                                        refine g_aload_n C dL_law_709 rfl ?_
                                        obtain ⟨x125, G126, hg, h1, hf⟩ := vH_ok hf
                                        refine g_invV (As := []) (st := []) C (c_Fa_cancel E h1) (rfl : vwCl[9]? = some (y_Fa_cancel.cls, TX9, 13)) (by decide) hg ml_La_89 cm_Fa_cancel.1 cm_Fa_cancel.2.1 cm_Fa_cancel.2.2.1 cm_Fa_cancel.2.2.2.1 cm_Fa_cancel.2.2.2.2 rfl ⟨by omega, by omega, by omega, by omega⟩ (by exact Nat.le_of_ble_eq_true rfl) rfl dL_law_710 ?_
                                        refine g_aload_n C dL_law_713 rfl ?_
                                        obtain ⟨x127, G128, hg, h1, hf⟩ := vH_ok hf
                                        refine g_invV (As := []) (st := [.int x125]) C (c_Mo_cancel E h1) (rfl : vwCl[10]? = some (y_Mo_cancel.cls, TX10, 24)) (by decide) hg ml_La_92 cm_Mo_cancel.1 cm_Mo_cancel.2.1 cm_Mo_cancel.2.2.1 cm_Mo_cancel.2.2.2.1 cm_Mo_cancel.2.2.2.2 rfl ⟨by omega, by omega, by omega, by omega⟩ (by exact Nat.le_of_ble_eq_true rfl) rfl dL_law_714 ?_
                                        refine g_icmp_eq (tgt := 1171) C dL_law_717 (by decide) (fun hc => ?_) (fun hc => ?_)
                                        · have hf := iteT hf hc
                                          refine g_sub (lv' := [some (.ref bs), some (.ref (E.2.1 + l1)), some (.ref (E.2.1 + l2)), some (.int l3)]) ⟨rfl, ⟨rfl, ⟨rfl, ⟨rfl, trivial⟩⟩⟩⟩ ?_
                                          exact l_La_law_b1171 hX C HR K18 hf
                                        · have hf := iteF hf hc
                                          refine g_iconst (v := (0 : Int32)) C dL_law_720 (by decide) ?_
                                          exact absurd (rH_ok hf).1 (by decide)
                                      · have hf := iteF hf hc17
                                        by_cases hc18 : (x2 &&& (63 : Int32)) = 18
                                        · have hf := iteT hf hc18
                                          refine g_tabIn (tgt := 722) C dL_law_33 18 (by rw [hc18]; rfl) (by decide) (by decide) rfl (by decide) ?_
                                          refine g_aload_n C dL_law_722 rfl ?_
                                          refine g_aload_n C dL_law_723 rfl ?_
                                          refine g_iload_n C dL_law_724 rfl ?_
                                          refine g_iconst (v := (1 : Int32)) C dL_law_725 (by decide) ?_
                                          refine g_iadd C dL_law_726 ?_
                                          obtain ⟨x129, hx129, hg, hf⟩ := xI_ok hf
                                          refine e_sld C hX dL_law_727 hx129 hg ?_
                                          obtain ⟨x130, G131, hg, h1, hf⟩ := vH_ok hf
                                          refine g_invV (As := [.int x129]) (st := []) C (c_Fa_net E h1) (rfl : vwCl[9]? = some (y_Fa_net.cls, TX9, 13)) (by decide) hg ml_La_93 cm_Fa_net.1 cm_Fa_net.2.1 cm_Fa_net.2.2.1 cm_Fa_net.2.2.2.1 cm_Fa_net.2.2.2.2 rfl ⟨by omega, by omega, by omega, by omega⟩ (by exact Nat.le_of_ble_eq_true rfl) rfl dL_law_728 ?_
                                          refine g_aload_n C dL_law_731 rfl ?_
                                          refine g_aload_n C dL_law_732 rfl ?_
                                          refine g_iload_n C dL_law_733 rfl ?_
                                          refine g_iconst (v := (1 : Int32)) C dL_law_734 (by decide) ?_
                                          refine g_iadd C dL_law_735 ?_
                                          obtain ⟨x132, hx132, hg, hf⟩ := xI_ok hf
                                          refine e_sld C hX dL_law_736 hx132 hg ?_
                                          obtain ⟨x133, G134, hg, h1, hf⟩ := vH_ok hf
                                          refine g_invV (As := [.int x132]) (st := [.int x130]) C (c_Mo_net E h1) (rfl : vwCl[10]? = some (y_Mo_net.cls, TX10, 24)) (by decide) hg ml_La_96 cm_Mo_net.1 cm_Mo_net.2.1 cm_Mo_net.2.2.1 cm_Mo_net.2.2.2.1 cm_Mo_net.2.2.2.2 rfl ⟨by omega, by omega, by omega, by omega⟩ (by exact Nat.le_of_ble_eq_true rfl) rfl dL_law_737 ?_
                                          refine g_icmp_eq (tgt := 1171) C dL_law_740 (by decide) (fun hc => ?_) (fun hc => ?_)
                                          · have hf := iteT hf hc
                                            refine g_sub (lv' := [some (.ref bs), some (.ref (E.2.1 + l1)), some (.ref (E.2.1 + l2)), some (.int l3)]) ⟨rfl, ⟨rfl, ⟨rfl, ⟨rfl, trivial⟩⟩⟩⟩ ?_
                                            exact l_La_law_b1171 hX C HR K18 hf
                                          · have hf := iteF hf hc
                                            refine g_iconst (v := (0 : Int32)) C dL_law_743 (by decide) ?_
                                            exact absurd (rH_ok hf).1 (by decide)
                                        · have hf := iteF hf hc18
                                          by_cases hc19 : (x2 &&& (63 : Int32)) = 19
                                          · have hf := iteT hf hc19
                                            refine g_tabIn (tgt := 745) C dL_law_33 19 (by rw [hc19]; rfl) (by decide) (by decide) rfl (by decide) ?_
                                            refine g_aload_n C dL_law_745 rfl ?_
                                            obtain ⟨x135, G136, hg, h1, hf⟩ := vH_ok hf
                                            refine g_invV (As := []) (st := []) C (c_Fa_fewest E h1) (rfl : vwCl[9]? = some (y_Fa_fewest.cls, TX9, 13)) (by decide) hg ml_La_97 cm_Fa_fewest.1 cm_Fa_fewest.2.1 cm_Fa_fewest.2.2.1 cm_Fa_fewest.2.2.2.1 cm_Fa_fewest.2.2.2.2 rfl ⟨by omega, by omega, by omega, by omega⟩ (by exact Nat.le_of_ble_eq_true rfl) rfl dL_law_746 ?_
                                            refine g_aload_n C dL_law_749 rfl ?_
                                            obtain ⟨x137, G138, hg, h1, hf⟩ := vH_ok hf
                                            refine g_invV (As := []) (st := [.int x135]) C (c_Mo_fewest E h1) (rfl : vwCl[10]? = some (y_Mo_fewest.cls, TX10, 24)) (by decide) hg ml_La_100 cm_Mo_fewest.1 cm_Mo_fewest.2.1 cm_Mo_fewest.2.2.1 cm_Mo_fewest.2.2.2.1 cm_Mo_fewest.2.2.2.2 rfl ⟨by omega, by omega, by omega, by omega⟩ (by exact Nat.le_of_ble_eq_true rfl) rfl dL_law_750 ?_
                                            refine g_icmp_eq (tgt := 1171) C dL_law_753 (by decide) (fun hc => ?_) (fun hc => ?_)
                                            · have hf := iteT hf hc
                                              refine g_sub (lv' := [some (.ref bs), some (.ref (E.2.1 + l1)), some (.ref (E.2.1 + l2)), some (.int l3)]) ⟨rfl, ⟨rfl, ⟨rfl, ⟨rfl, trivial⟩⟩⟩⟩ ?_
                                              exact l_La_law_b1171 hX C HR K18 hf
                                            · have hf := iteF hf hc
                                              refine g_iconst (v := (0 : Int32)) C dL_law_756 (by decide) ?_
                                              exact absurd (rH_ok hf).1 (by decide)
                                          · have hf := iteF hf hc19
                                            by_cases hc20 : (x2 &&& (63 : Int32)) = 20
                                            · have hf := iteT hf hc20
                                              refine g_tabIn (tgt := 758) C dL_law_33 20 (by rw [hc20]; rfl) (by decide) (by decide) rfl (by decide) ?_
                                              refine g_aload_n C dL_law_758 rfl ?_
                                              refine g_aload_n C dL_law_759 rfl ?_
                                              refine g_iload_n C dL_law_760 rfl ?_
                                              refine g_iconst (v := (1 : Int32)) C dL_law_761 (by decide) ?_
                                              refine g_iadd C dL_law_762 ?_
                                              obtain ⟨x139, hx139, hg, hf⟩ := xI_ok hf
                                              refine e_sld C hX dL_law_763 hx139 hg ?_
                                              obtain ⟨x140, G141, hg, h1, hf⟩ := vH_ok hf
                                              refine g_invV (As := [.int x139]) (st := []) C (c_Fa_met E h1) (rfl : vwCl[9]? = some (y_Fa_met.cls, TX9, 13)) (by decide) hg ml_La_101 cm_Fa_met.1 cm_Fa_met.2.1 cm_Fa_met.2.2.1 cm_Fa_met.2.2.2.1 cm_Fa_met.2.2.2.2 rfl ⟨by omega, by omega, by omega, by omega⟩ (by exact Nat.le_of_ble_eq_true rfl) rfl dL_law_764 ?_
                                              refine g_aload_n C dL_law_767 rfl ?_
                                              refine g_aload_n C dL_law_768 rfl ?_
                                              refine g_iload_n C dL_law_769 rfl ?_
                                              refine g_iconst (v := (1 : Int32)) C dL_law_770 (by decide) ?_
                                              refine g_iadd C dL_law_771 ?_
                                              obtain ⟨x142, hx142, hg, hf⟩ := xI_ok hf
                                              refine e_sld C hX dL_law_772 hx142 hg ?_
                                              obtain ⟨x143, G144, hg, h1, hf⟩ := vH_ok hf
                                              refine g_invV (As := [.int x142]) (st := [.int x140]) C (c_Mo_met E h1) (rfl : vwCl[10]? = some (y_Mo_met.cls, TX10, 24)) (by decide) hg ml_La_104 cm_Mo_met.1 cm_Mo_met.2.1 cm_Mo_met.2.2.1 cm_Mo_met.2.2.2.1 cm_Mo_met.2.2.2.2 rfl ⟨by omega, by omega, by omega, by omega⟩ (by exact Nat.le_of_ble_eq_true rfl) rfl dL_law_773 ?_
                                              refine g_icmp_eq (tgt := 1171) C dL_law_776 (by decide) (fun hc => ?_) (fun hc => ?_)
                                              · have hf := iteT hf hc
                                                refine g_sub (lv' := [some (.ref bs), some (.ref (E.2.1 + l1)), some (.ref (E.2.1 + l2)), some (.int l3)]) ⟨rfl, ⟨rfl, ⟨rfl, ⟨rfl, trivial⟩⟩⟩⟩ ?_
                                                exact l_La_law_b1171 hX C HR K18 hf
                                              · have hf := iteF hf hc
                                                refine g_iconst (v := (0 : Int32)) C dL_law_779 (by decide) ?_
                                                exact absurd (rH_ok hf).1 (by decide)
                                            · have hf := iteF hf hc20
                                              by_cases hc21 : (x2 &&& (63 : Int32)) = 21
                                              · have hf := iteT hf hc21
                                                refine g_tabIn (tgt := 781) C dL_law_33 21 (by rw [hc21]; rfl) (by decide) (by decide) rfl (by decide) ?_
                                                refine g_aload_n C dL_law_781 rfl ?_
                                                refine g_aload_n C dL_law_782 rfl ?_
                                                refine g_iload_n C dL_law_783 rfl ?_
                                                refine g_iconst (v := (1 : Int32)) C dL_law_784 (by decide) ?_
                                                refine g_iadd C dL_law_785 ?_
                                                obtain ⟨x145, hx145, hg, hf⟩ := xI_ok hf
                                                refine e_sld C hX dL_law_786 hx145 hg ?_
                                                obtain ⟨x146, G147, hg, h1, hf⟩ := vH_ok hf
                                                refine g_invV (As := [.int x145]) (st := []) C (c_Fa_plan E h1) (rfl : vwCl[9]? = some (y_Fa_plan.cls, TX9, 13)) (by decide) hg ml_La_105 cm_Fa_plan.1 cm_Fa_plan.2.1 cm_Fa_plan.2.2.1 cm_Fa_plan.2.2.2.1 cm_Fa_plan.2.2.2.2 rfl ⟨by omega, by omega, by omega, by omega⟩ (by exact Nat.le_of_ble_eq_true rfl) rfl dL_law_787 ?_
                                                refine g_aload_n C dL_law_790 rfl ?_
                                                refine g_aload_n C dL_law_791 rfl ?_
                                                refine g_iload_n C dL_law_792 rfl ?_
                                                refine g_iconst (v := (1 : Int32)) C dL_law_793 (by decide) ?_
                                                refine g_iadd C dL_law_794 ?_
                                                obtain ⟨x148, hx148, hg, hf⟩ := xI_ok hf
                                                refine e_sld C hX dL_law_795 hx148 hg ?_
                                                obtain ⟨x149, G150, hg, h1, hf⟩ := vH_ok hf
                                                refine g_invV (As := [.int x148]) (st := [.int x146]) C (c_Mo_plan E h1) (rfl : vwCl[10]? = some (y_Mo_plan.cls, TX10, 24)) (by decide) hg ml_La_108 cm_Mo_plan.1 cm_Mo_plan.2.1 cm_Mo_plan.2.2.1 cm_Mo_plan.2.2.2.1 cm_Mo_plan.2.2.2.2 rfl ⟨by omega, by omega, by omega, by omega⟩ (by exact Nat.le_of_ble_eq_true rfl) rfl dL_law_796 ?_
                                                refine g_icmp_eq (tgt := 1171) C dL_law_799 (by decide) (fun hc => ?_) (fun hc => ?_)
                                                · have hf := iteT hf hc
                                                  refine g_sub (lv' := [some (.ref bs), some (.ref (E.2.1 + l1)), some (.ref (E.2.1 + l2)), some (.int l3)]) ⟨rfl, ⟨rfl, ⟨rfl, ⟨rfl, trivial⟩⟩⟩⟩ ?_
                                                  exact l_La_law_b1171 hX C HR K18 hf
                                                · have hf := iteF hf hc
                                                  refine g_iconst (v := (0 : Int32)) C dL_law_802 (by decide) ?_
                                                  exact absurd (rH_ok hf).1 (by decide)
                                              · have hf := iteF hf hc21
                                                by_cases hc22 : (x2 &&& (63 : Int32)) = 22
                                                · have hf := iteT hf hc22
                                                  refine g_tabIn (tgt := 804) C dL_law_33 22 (by rw [hc22]; rfl) (by decide) (by decide) rfl (by decide) ?_
                                                  refine g_aload_n C dL_law_804 rfl ?_
                                                  refine g_aload_n C dL_law_805 rfl ?_
                                                  refine g_iload_n C dL_law_806 rfl ?_
                                                  refine g_iconst (v := (1 : Int32)) C dL_law_807 (by decide) ?_
                                                  refine g_iadd C dL_law_808 ?_
                                                  obtain ⟨x151, hx151, hg, hf⟩ := xI_ok hf
                                                  refine e_sld C hX dL_law_809 hx151 hg ?_
                                                  refine g_aload_n C dL_law_810 rfl ?_
                                                  refine g_iload_n C dL_law_811 rfl ?_
                                                  refine g_iconst (v := (2 : Int32)) C dL_law_812 (by decide) ?_
                                                  refine g_iadd C dL_law_813 ?_
                                                  obtain ⟨x152, hx152, hg, hf⟩ := xI_ok hf
                                                  refine e_sld C hX dL_law_814 hx152 hg ?_
                                                  obtain ⟨x153, G154, hg, h1, hf⟩ := vH_ok hf
                                                  refine g_invV (As := [.int x151, .int x152]) (st := []) C (c_Fa_fire E h1) (rfl : vwCl[9]? = some (y_Fa_fire.cls, TX9, 13)) (by decide) hg ml_La_109 cm_Fa_fire.1 cm_Fa_fire.2.1 cm_Fa_fire.2.2.1 cm_Fa_fire.2.2.2.1 cm_Fa_fire.2.2.2.2 rfl ⟨by omega, by omega, by omega, by omega⟩ (by exact Nat.le_of_ble_eq_true rfl) rfl dL_law_815 ?_
                                                  refine g_aload_n C dL_law_818 rfl ?_
                                                  refine g_aload_n C dL_law_819 rfl ?_
                                                  refine g_iload_n C dL_law_820 rfl ?_
                                                  refine g_iconst (v := (1 : Int32)) C dL_law_821 (by decide) ?_
                                                  refine g_iadd C dL_law_822 ?_
                                                  obtain ⟨x155, hx155, hg, hf⟩ := xI_ok hf
                                                  refine e_sld C hX dL_law_823 hx155 hg ?_
                                                  refine g_aload_n C dL_law_824 rfl ?_
                                                  refine g_iload_n C dL_law_825 rfl ?_
                                                  refine g_iconst (v := (2 : Int32)) C dL_law_826 (by decide) ?_
                                                  refine g_iadd C dL_law_827 ?_
                                                  obtain ⟨x156, hx156, hg, hf⟩ := xI_ok hf
                                                  refine e_sld C hX dL_law_828 hx156 hg ?_
                                                  obtain ⟨x157, G158, hg, h1, hf⟩ := vH_ok hf
                                                  refine g_invV (As := [.int x155, .int x156]) (st := [.int x153]) C (c_Mo_fire E h1) (rfl : vwCl[10]? = some (y_Mo_fire.cls, TX10, 24)) (by decide) hg ml_La_112 cm_Mo_fire.1 cm_Mo_fire.2.1 cm_Mo_fire.2.2.1 cm_Mo_fire.2.2.2.1 cm_Mo_fire.2.2.2.2 rfl ⟨by omega, by omega, by omega, by omega⟩ (by exact Nat.le_of_ble_eq_true rfl) rfl dL_law_829 ?_
                                                  refine g_icmp_eq (tgt := 1171) C dL_law_832 (by decide) (fun hc => ?_) (fun hc => ?_)
                                                  · have hf := iteT hf hc
                                                    refine g_sub (lv' := [some (.ref bs), some (.ref (E.2.1 + l1)), some (.ref (E.2.1 + l2)), some (.int l3)]) ⟨rfl, ⟨rfl, ⟨rfl, ⟨rfl, trivial⟩⟩⟩⟩ ?_
                                                    exact l_La_law_b1171 hX C HR K18 hf
                                                  · have hf := iteF hf hc
                                                    refine g_iconst (v := (0 : Int32)) C dL_law_835 (by decide) ?_
                                                    exact absurd (rH_ok hf).1 (by decide)
                                                · have hf := iteF hf hc22
                                                  by_cases hc23 : (x2 &&& (63 : Int32)) = 23
                                                  · have hf := iteT hf hc23
                                                    refine g_tabIn (tgt := 837) C dL_law_33 23 (by rw [hc23]; rfl) (by decide) (by decide) rfl (by decide) ?_
                                                    refine g_aload_n C dL_law_837 rfl ?_
                                                    refine g_aload_n C dL_law_838 rfl ?_
                                                    refine g_iload_n C dL_law_839 rfl ?_
                                                    refine g_iconst (v := (1 : Int32)) C dL_law_840 (by decide) ?_
                                                    refine g_iadd C dL_law_841 ?_
                                                    obtain ⟨x159, hx159, hg, hf⟩ := xI_ok hf
                                                    refine e_sld C hX dL_law_842 hx159 hg ?_
                                                    refine g_aload_n C dL_law_843 rfl ?_
                                                    refine g_iload_n C dL_law_844 rfl ?_
                                                    refine g_iconst (v := (2 : Int32)) C dL_law_845 (by decide) ?_
                                                    refine g_iadd C dL_law_846 ?_
                                                    obtain ⟨x160, hx160, hg, hf⟩ := xI_ok hf
                                                    refine e_sld C hX dL_law_847 hx160 hg ?_
                                                    obtain ⟨x161, G162, hg, h1, hf⟩ := vH_ok hf
                                                    refine g_invV (As := [.int x159, .int x160]) (st := []) C (c_Fa_rate E h1) (rfl : vwCl[9]? = some (y_Fa_rate.cls, TX9, 13)) (by decide) hg ml_La_113 cm_Fa_rate.1 cm_Fa_rate.2.1 cm_Fa_rate.2.2.1 cm_Fa_rate.2.2.2.1 cm_Fa_rate.2.2.2.2 rfl ⟨by omega, by omega, by omega, by omega⟩ (by exact Nat.le_of_ble_eq_true rfl) rfl dL_law_848 ?_
                                                    refine g_aload_n C dL_law_851 rfl ?_
                                                    refine g_aload_n C dL_law_852 rfl ?_
                                                    refine g_iload_n C dL_law_853 rfl ?_
                                                    refine g_iconst (v := (1 : Int32)) C dL_law_854 (by decide) ?_
                                                    refine g_iadd C dL_law_855 ?_
                                                    obtain ⟨x163, hx163, hg, hf⟩ := xI_ok hf
                                                    refine e_sld C hX dL_law_856 hx163 hg ?_
                                                    refine g_aload_n C dL_law_857 rfl ?_
                                                    refine g_iload_n C dL_law_858 rfl ?_
                                                    refine g_iconst (v := (2 : Int32)) C dL_law_859 (by decide) ?_
                                                    refine g_iadd C dL_law_860 ?_
                                                    obtain ⟨x164, hx164, hg, hf⟩ := xI_ok hf
                                                    refine e_sld C hX dL_law_861 hx164 hg ?_
                                                    obtain ⟨x165, G166, hg, h1, hf⟩ := vH_ok hf
                                                    refine g_invV (As := [.int x163, .int x164]) (st := [.int x161]) C (c_Mo_rate E h1) (rfl : vwCl[10]? = some (y_Mo_rate.cls, TX10, 24)) (by decide) hg ml_La_116 cm_Mo_rate.1 cm_Mo_rate.2.1 cm_Mo_rate.2.2.1 cm_Mo_rate.2.2.2.1 cm_Mo_rate.2.2.2.2 rfl ⟨by omega, by omega, by omega, by omega⟩ (by exact Nat.le_of_ble_eq_true rfl) rfl dL_law_862 ?_
                                                    refine g_icmp_eq (tgt := 1171) C dL_law_865 (by decide) (fun hc => ?_) (fun hc => ?_)
                                                    · have hf := iteT hf hc
                                                      refine g_sub (lv' := [some (.ref bs), some (.ref (E.2.1 + l1)), some (.ref (E.2.1 + l2)), some (.int l3)]) ⟨rfl, ⟨rfl, ⟨rfl, ⟨rfl, trivial⟩⟩⟩⟩ ?_
                                                      exact l_La_law_b1171 hX C HR K18 hf
                                                    · have hf := iteF hf hc
                                                      refine g_iconst (v := (0 : Int32)) C dL_law_868 (by decide) ?_
                                                      exact absurd (rH_ok hf).1 (by decide)
                                                  · have hf := iteF hf hc23
                                                    by_cases hc24 : (x2 &&& (63 : Int32)) = 24
                                                    · have hf := iteT hf hc24
                                                      refine g_tabIn (tgt := 870) C dL_law_33 24 (by rw [hc24]; rfl) (by decide) (by decide) rfl (by decide) ?_
                                                      refine g_aload_n C dL_law_870 rfl ?_
                                                      refine g_aload_n C dL_law_871 rfl ?_
                                                      refine g_iload_n C dL_law_872 rfl ?_
                                                      refine g_iconst (v := (1 : Int32)) C dL_law_873 (by decide) ?_
                                                      refine g_iadd C dL_law_874 ?_
                                                      obtain ⟨x167, hx167, hg, hf⟩ := xI_ok hf
                                                      refine e_sld C hX dL_law_875 hx167 hg ?_
                                                      refine g_aload_n C dL_law_876 rfl ?_
                                                      refine g_iload_n C dL_law_877 rfl ?_
                                                      refine g_iconst (v := (2 : Int32)) C dL_law_878 (by decide) ?_
                                                      refine g_iadd C dL_law_879 ?_
                                                      obtain ⟨x168, hx168, hg, hf⟩ := xI_ok hf
                                                      refine e_sld C hX dL_law_880 hx168 hg ?_
                                                      obtain ⟨x169, G170, hg, h1, hf⟩ := vH_ok hf
                                                      refine g_invV (As := [.int x167, .int x168]) (st := []) C (c_Fa_set E h1) (rfl : vwCl[9]? = some (y_Fa_set.cls, TX9, 13)) (by decide) hg ml_La_117 cm_Fa_set.1 cm_Fa_set.2.1 cm_Fa_set.2.2.1 cm_Fa_set.2.2.2.1 cm_Fa_set.2.2.2.2 rfl ⟨by omega, by omega, by omega, by omega⟩ (by exact Nat.le_of_ble_eq_true rfl) rfl dL_law_881 ?_
                                                      refine g_aload_n C dL_law_884 rfl ?_
                                                      refine g_aload_n C dL_law_885 rfl ?_
                                                      refine g_iload_n C dL_law_886 rfl ?_
                                                      refine g_iconst (v := (1 : Int32)) C dL_law_887 (by decide) ?_
                                                      refine g_iadd C dL_law_888 ?_
                                                      obtain ⟨x171, hx171, hg, hf⟩ := xI_ok hf
                                                      refine e_sld C hX dL_law_889 hx171 hg ?_
                                                      refine g_aload_n C dL_law_890 rfl ?_
                                                      refine g_iload_n C dL_law_891 rfl ?_
                                                      refine g_iconst (v := (2 : Int32)) C dL_law_892 (by decide) ?_
                                                      refine g_iadd C dL_law_893 ?_
                                                      obtain ⟨x172, hx172, hg, hf⟩ := xI_ok hf
                                                      refine e_sld C hX dL_law_894 hx172 hg ?_
                                                      obtain ⟨x173, G174, hg, h1, hf⟩ := vH_ok hf
                                                      refine g_invV (As := [.int x171, .int x172]) (st := [.int x169]) C (c_Mo_set E h1) (rfl : vwCl[10]? = some (y_Mo_set.cls, TX10, 24)) (by decide) hg ml_La_120 cm_Mo_set.1 cm_Mo_set.2.1 cm_Mo_set.2.2.1 cm_Mo_set.2.2.2.1 cm_Mo_set.2.2.2.2 rfl ⟨by omega, by omega, by omega, by omega⟩ (by exact Nat.le_of_ble_eq_true rfl) rfl dL_law_895 ?_
                                                      refine g_icmp_eq (tgt := 1171) C dL_law_898 (by decide) (fun hc => ?_) (fun hc => ?_)
                                                      · have hf := iteT hf hc
                                                        refine g_sub (lv' := [some (.ref bs), some (.ref (E.2.1 + l1)), some (.ref (E.2.1 + l2)), some (.int l3)]) ⟨rfl, ⟨rfl, ⟨rfl, ⟨rfl, trivial⟩⟩⟩⟩ ?_
                                                        exact l_La_law_b1171 hX C HR K18 hf
                                                      · have hf := iteF hf hc
                                                        refine g_iconst (v := (0 : Int32)) C dL_law_901 (by decide) ?_
                                                        exact absurd (rH_ok hf).1 (by decide)
                                                    · have hf := iteF hf hc24
                                                      by_cases hc25 : (x2 &&& (63 : Int32)) = 25
                                                      · have hf := iteT hf hc25
                                                        refine g_tabIn (tgt := 903) C dL_law_33 25 (by rw [hc25]; rfl) (by decide) (by decide) rfl (by decide) ?_
                                                        refine g_aload_n C dL_law_903 rfl ?_
                                                        obtain ⟨x175, hg, h1, hf⟩ := vP_ok hf
                                                        refine g_invV (As := []) (st := []) C (c_Fa_settles E h1) (rfl : vwCl[9]? = some (y_Fa_settles.cls, TX9, 13)) (by decide) hg ml_La_121 cm_Fa_settles.1 cm_Fa_settles.2.1 cm_Fa_settles.2.2.1 cm_Fa_settles.2.2.2.1 cm_Fa_settles.2.2.2.2 rfl ⟨by omega, by omega, by omega, by omega⟩ (by exact Nat.le_of_ble_eq_true rfl) rfl dL_law_904 ?_
                                                        refine g_aload_n C dL_law_907 rfl ?_
                                                        obtain ⟨x176, G177, hg, h1, hf⟩ := vH_ok hf
                                                        refine g_invV (As := []) (st := [.int x175]) C (c_Mo_settles E h1) (rfl : vwCl[10]? = some (y_Mo_settles.cls, TX10, 24)) (by decide) hg ml_La_124 cm_Mo_settles.1 cm_Mo_settles.2.1 cm_Mo_settles.2.2.1 cm_Mo_settles.2.2.2.1 cm_Mo_settles.2.2.2.2 rfl ⟨by omega, by omega, by omega, by omega⟩ (by exact Nat.le_of_ble_eq_true rfl) rfl dL_law_908 ?_
                                                        refine g_icmp_eq (tgt := 1171) C dL_law_911 (by decide) (fun hc => ?_) (fun hc => ?_)
                                                        · have hf := iteT hf hc
                                                          refine g_sub (lv' := [some (.ref bs), some (.ref (E.2.1 + l1)), some (.ref (E.2.1 + l2)), some (.int l3)]) ⟨rfl, ⟨rfl, ⟨rfl, ⟨rfl, trivial⟩⟩⟩⟩ ?_
                                                          exact l_La_law_b1171 hX C HR K18 hf
                                                        · have hf := iteF hf hc
                                                          refine g_iconst (v := (0 : Int32)) C dL_law_914 (by decide) ?_
                                                          exact absurd (rH_ok hf).1 (by decide)
                                                      · have hf := iteF hf hc25
                                                        by_cases hc26 : (x2 &&& (63 : Int32)) = 26
                                                        · have hf := iteT hf hc26
                                                          refine g_tabIn (tgt := 916) C dL_law_33 26 (by rw [hc26]; rfl) (by decide) (by decide) rfl (by decide) ?_
                                                          refine g_aload_n C dL_law_916 rfl ?_
                                                          refine g_aload_n C dL_law_917 rfl ?_
                                                          refine g_iload_n C dL_law_918 rfl ?_
                                                          refine g_iconst (v := (1 : Int32)) C dL_law_919 (by decide) ?_
                                                          refine g_iadd C dL_law_920 ?_
                                                          obtain ⟨x178, hx178, hg, hf⟩ := xI_ok hf
                                                          refine e_sld C hX dL_law_921 hx178 hg ?_
                                                          refine g_aload_n C dL_law_922 rfl ?_
                                                          refine g_iload_n C dL_law_923 rfl ?_
                                                          refine g_iconst (v := (2 : Int32)) C dL_law_924 (by decide) ?_
                                                          refine g_iadd C dL_law_925 ?_
                                                          obtain ⟨x179, hx179, hg, hf⟩ := xI_ok hf
                                                          refine e_sld C hX dL_law_926 hx179 hg ?_
                                                          refine g_aload_n C dL_law_927 rfl ?_
                                                          refine g_iload_n C dL_law_928 rfl ?_
                                                          refine g_iconst (v := (3 : Int32)) C dL_law_929 (by decide) ?_
                                                          refine g_iadd C dL_law_930 ?_
                                                          obtain ⟨x180, hx180, hg, hf⟩ := xI_ok hf
                                                          refine e_sld C hX dL_law_931 hx180 hg ?_
                                                          obtain ⟨x181, G182, hg, h1, hf⟩ := vH_ok hf
                                                          refine g_invV (As := [.int x178, .int x179, .int x180]) (st := []) C (c_Fa_told E h1) (rfl : vwCl[9]? = some (y_Fa_told.cls, TX9, 13)) (by decide) hg ml_La_125 cm_Fa_told.1 cm_Fa_told.2.1 cm_Fa_told.2.2.1 cm_Fa_told.2.2.2.1 cm_Fa_told.2.2.2.2 rfl ⟨by omega, by omega, by omega, by omega⟩ (by exact Nat.le_of_ble_eq_true rfl) rfl dL_law_932 ?_
                                                          refine g_aload_n C dL_law_935 rfl ?_
                                                          refine g_aload_n C dL_law_936 rfl ?_
                                                          refine g_iload_n C dL_law_937 rfl ?_
                                                          refine g_iconst (v := (1 : Int32)) C dL_law_938 (by decide) ?_
                                                          refine g_iadd C dL_law_939 ?_
                                                          obtain ⟨x183, hx183, hg, hf⟩ := xI_ok hf
                                                          refine e_sld C hX dL_law_940 hx183 hg ?_
                                                          refine g_aload_n C dL_law_941 rfl ?_
                                                          refine g_iload_n C dL_law_942 rfl ?_
                                                          refine g_iconst (v := (2 : Int32)) C dL_law_943 (by decide) ?_
                                                          refine g_iadd C dL_law_944 ?_
                                                          obtain ⟨x184, hx184, hg, hf⟩ := xI_ok hf
                                                          refine e_sld C hX dL_law_945 hx184 hg ?_
                                                          refine g_aload_n C dL_law_946 rfl ?_
                                                          refine g_iload_n C dL_law_947 rfl ?_
                                                          refine g_iconst (v := (3 : Int32)) C dL_law_948 (by decide) ?_
                                                          refine g_iadd C dL_law_949 ?_
                                                          obtain ⟨x185, hx185, hg, hf⟩ := xI_ok hf
                                                          refine e_sld C hX dL_law_950 hx185 hg ?_
                                                          obtain ⟨x186, G187, hg, h1, hf⟩ := vH_ok hf
                                                          refine g_invV (As := [.int x183, .int x184, .int x185]) (st := [.int x181]) C (c_Mo_told E h1) (rfl : vwCl[10]? = some (y_Mo_told.cls, TX10, 24)) (by decide) hg ml_La_129 cm_Mo_told.1 cm_Mo_told.2.1 cm_Mo_told.2.2.1 cm_Mo_told.2.2.2.1 cm_Mo_told.2.2.2.2 rfl ⟨by omega, by omega, by omega, by omega⟩ (by exact Nat.le_of_ble_eq_true rfl) rfl dL_law_951 ?_
                                                          refine g_icmp_eq (tgt := 1171) C dL_law_954 (by decide) (fun hc => ?_) (fun hc => ?_)
                                                          · have hf := iteT hf hc
                                                            refine g_sub (lv' := [some (.ref bs), some (.ref (E.2.1 + l1)), some (.ref (E.2.1 + l2)), some (.int l3)]) ⟨rfl, ⟨rfl, ⟨rfl, ⟨rfl, trivial⟩⟩⟩⟩ ?_
                                                            exact l_La_law_b1171 hX C HR K18 hf
                                                          · have hf := iteF hf hc
                                                            refine g_iconst (v := (0 : Int32)) C dL_law_957 (by decide) ?_
                                                            exact absurd (rH_ok hf).1 (by decide)
                                                        · have hf := iteF hf hc26
                                                          by_cases hc27 : (x2 &&& (63 : Int32)) = 27
                                                          · have hf := iteT hf hc27
                                                            refine g_tabIn (tgt := 959) C dL_law_33 27 (by rw [hc27]; rfl) (by decide) (by decide) rfl (by decide) ?_
                                                            refine g_aload_n C dL_law_959 rfl ?_
                                                            obtain ⟨x188, hg, h1, hf⟩ := vP_ok hf
                                                            refine g_invV (As := []) (st := []) C (c_Fa_forged E h1) (rfl : vwCl[9]? = some (y_Fa_forged.cls, TX9, 13)) (by decide) hg ml_La_130 cm_Fa_forged.1 cm_Fa_forged.2.1 cm_Fa_forged.2.2.1 cm_Fa_forged.2.2.2.1 cm_Fa_forged.2.2.2.2 rfl ⟨by omega, by omega, by omega, by omega⟩ (by exact Nat.le_of_ble_eq_true rfl) rfl dL_law_960 ?_
                                                            refine g_aload_n C dL_law_963 rfl ?_
                                                            obtain ⟨x189, G190, hg, h1, hf⟩ := vH_ok hf
                                                            refine g_invV (As := []) (st := [.int x188]) C (c_Mo_forged E h1) (rfl : vwCl[10]? = some (y_Mo_forged.cls, TX10, 24)) (by decide) hg ml_La_133 cm_Mo_forged.1 cm_Mo_forged.2.1 cm_Mo_forged.2.2.1 cm_Mo_forged.2.2.2.1 cm_Mo_forged.2.2.2.2 rfl ⟨by omega, by omega, by omega, by omega⟩ (by exact Nat.le_of_ble_eq_true rfl) rfl dL_law_964 ?_
                                                            refine g_icmp_eq (tgt := 1171) C dL_law_967 (by decide) (fun hc => ?_) (fun hc => ?_)
                                                            · have hf := iteT hf hc
                                                              refine g_sub (lv' := [some (.ref bs), some (.ref (E.2.1 + l1)), some (.ref (E.2.1 + l2)), some (.int l3)]) ⟨rfl, ⟨rfl, ⟨rfl, ⟨rfl, trivial⟩⟩⟩⟩ ?_
                                                              exact l_La_law_b1171 hX C HR K18 hf
                                                            · have hf := iteF hf hc
                                                              refine g_iconst (v := (0 : Int32)) C dL_law_970 (by decide) ?_
                                                              exact absurd (rH_ok hf).1 (by decide)
                                                          · have hf := iteF hf hc27
                                                            by_cases hc28 : (x2 &&& (63 : Int32)) = 28
                                                            · have hf := iteT hf hc28
                                                              refine g_tabIn (tgt := 972) C dL_law_33 28 (by rw [hc28]; rfl) (by decide) (by decide) rfl (by decide) ?_
                                                              refine g_aload_n C dL_law_972 rfl ?_
                                                              obtain ⟨x191, G192, hg, h1, hf⟩ := vH_ok hf
                                                              refine g_invV (As := []) (st := []) C (c_Fa_forget E h1) (rfl : vwCl[9]? = some (y_Fa_forget.cls, TX9, 13)) (by decide) hg ml_La_134 cm_Fa_forget.1 cm_Fa_forget.2.1 cm_Fa_forget.2.2.1 cm_Fa_forget.2.2.2.1 cm_Fa_forget.2.2.2.2 rfl ⟨by omega, by omega, by omega, by omega⟩ (by exact Nat.le_of_ble_eq_true rfl) rfl dL_law_973 ?_
                                                              refine g_aload_n C dL_law_976 rfl ?_
                                                              obtain ⟨x193, G194, hg, h1, hf⟩ := vH_ok hf
                                                              refine g_invV (As := []) (st := [.int x191]) C (c_Mo_forget E h1) (rfl : vwCl[10]? = some (y_Mo_forget.cls, TX10, 24)) (by decide) hg ml_La_137 cm_Mo_forget.1 cm_Mo_forget.2.1 cm_Mo_forget.2.2.1 cm_Mo_forget.2.2.2.1 cm_Mo_forget.2.2.2.2 rfl ⟨by omega, by omega, by omega, by omega⟩ (by exact Nat.le_of_ble_eq_true rfl) rfl dL_law_977 ?_
                                                              refine g_icmp_eq (tgt := 1171) C dL_law_980 (by decide) (fun hc => ?_) (fun hc => ?_)
                                                              · have hf := iteT hf hc
                                                                refine g_sub (lv' := [some (.ref bs), some (.ref (E.2.1 + l1)), some (.ref (E.2.1 + l2)), some (.int l3)]) ⟨rfl, ⟨rfl, ⟨rfl, ⟨rfl, trivial⟩⟩⟩⟩ ?_
                                                                exact l_La_law_b1171 hX C HR K18 hf
                                                              · have hf := iteF hf hc
                                                                refine g_iconst (v := (0 : Int32)) C dL_law_983 (by decide) ?_
                                                                exact absurd (rH_ok hf).1 (by decide)
                                                            · have hf := iteF hf hc28
                                                              by_cases hc29 : (x2 &&& (63 : Int32)) = 29
                                                              · have hf := iteT hf hc29
                                                                refine g_tabIn (tgt := 985) C dL_law_33 29 (by rw [hc29]; rfl) (by decide) (by decide) rfl (by decide) ?_
                                                                refine g_aload_n C dL_law_985 rfl ?_
                                                                refine g_aload_n C dL_law_986 rfl ?_
                                                                refine g_iload_n C dL_law_987 rfl ?_
                                                                refine g_iconst (v := (1 : Int32)) C dL_law_988 (by decide) ?_
                                                                refine g_iadd C dL_law_989 ?_
                                                                obtain ⟨x195, hx195, hg, hf⟩ := xI_ok hf
                                                                refine e_sld C hX dL_law_990 hx195 hg ?_
                                                                obtain ⟨x196, G197, hg, h1, hf⟩ := vH_ok hf
                                                                refine g_invV (As := [.int x195]) (st := []) C (c_Fa_goesOff E h1) (rfl : vwCl[9]? = some (y_Fa_goesOff.cls, TX9, 13)) (by decide) hg ml_La_138 cm_Fa_goesOff.1 cm_Fa_goesOff.2.1 cm_Fa_goesOff.2.2.1 cm_Fa_goesOff.2.2.2.1 cm_Fa_goesOff.2.2.2.2 rfl ⟨by omega, by omega, by omega, by omega⟩ (by exact Nat.le_of_ble_eq_true rfl) rfl dL_law_991 ?_
                                                                refine g_aload_n C dL_law_994 rfl ?_
                                                                refine g_aload_n C dL_law_995 rfl ?_
                                                                refine g_iload_n C dL_law_996 rfl ?_
                                                                refine g_iconst (v := (1 : Int32)) C dL_law_997 (by decide) ?_
                                                                refine g_iadd C dL_law_998 ?_
                                                                obtain ⟨x198, hx198, hg, hf⟩ := xI_ok hf
                                                                refine e_sld C hX dL_law_999 hx198 hg ?_
                                                                obtain ⟨x199, G200, hg, h1, hf⟩ := vH_ok hf
                                                                refine g_invV (As := [.int x198]) (st := [.int x196]) C (c_Mo_goesOff E h1) (rfl : vwCl[10]? = some (y_Mo_goesOff.cls, TX10, 24)) (by decide) hg ml_La_141 cm_Mo_goesOff.1 cm_Mo_goesOff.2.1 cm_Mo_goesOff.2.2.1 cm_Mo_goesOff.2.2.2.1 cm_Mo_goesOff.2.2.2.2 rfl ⟨by omega, by omega, by omega, by omega⟩ (by exact Nat.le_of_ble_eq_true rfl) rfl dL_law_1000 ?_
                                                                refine g_icmp_eq (tgt := 1171) C dL_law_1003 (by decide) (fun hc => ?_) (fun hc => ?_)
                                                                · have hf := iteT hf hc
                                                                  refine g_sub (lv' := [some (.ref bs), some (.ref (E.2.1 + l1)), some (.ref (E.2.1 + l2)), some (.int l3)]) ⟨rfl, ⟨rfl, ⟨rfl, ⟨rfl, trivial⟩⟩⟩⟩ ?_
                                                                  exact l_La_law_b1171 hX C HR K18 hf
                                                                · have hf := iteF hf hc
                                                                  refine g_iconst (v := (0 : Int32)) C dL_law_1006 (by decide) ?_
                                                                  exact absurd (rH_ok hf).1 (by decide)
                                                              · have hf := iteF hf hc29
                                                                by_cases hc30 : (x2 &&& (63 : Int32)) = 30
                                                                · have hf := iteT hf hc30
                                                                  refine g_tabIn (tgt := 1008) C dL_law_33 30 (by rw [hc30]; rfl) (by decide) (by decide) rfl (by decide) ?_
                                                                  refine g_aload_n C dL_law_1008 rfl ?_
                                                                  refine g_aload_n C dL_law_1009 rfl ?_
                                                                  refine g_iload_n C dL_law_1010 rfl ?_
                                                                  refine g_iconst (v := (1 : Int32)) C dL_law_1011 (by decide) ?_
                                                                  refine g_iadd C dL_law_1012 ?_
                                                                  obtain ⟨x201, hx201, hg, hf⟩ := xI_ok hf
                                                                  refine e_sld C hX dL_law_1013 hx201 hg ?_
                                                                  refine g_aload_n C dL_law_1014 rfl ?_
                                                                  refine g_iload_n C dL_law_1015 rfl ?_
                                                                  refine g_iconst (v := (2 : Int32)) C dL_law_1016 (by decide) ?_
                                                                  refine g_iadd C dL_law_1017 ?_
                                                                  obtain ⟨x202, hx202, hg, hf⟩ := xI_ok hf
                                                                  refine e_sld C hX dL_law_1018 hx202 hg ?_
                                                                  obtain ⟨x203, G204, hg, h1, hf⟩ := vH_ok hf
                                                                  refine g_invV (As := [.int x201, .int x202]) (st := []) C (c_Fa_kept E h1) (rfl : vwCl[9]? = some (y_Fa_kept.cls, TX9, 13)) (by decide) hg ml_La_142 cm_Fa_kept.1 cm_Fa_kept.2.1 cm_Fa_kept.2.2.1 cm_Fa_kept.2.2.2.1 cm_Fa_kept.2.2.2.2 rfl ⟨by omega, by omega, by omega, by omega⟩ (by exact Nat.le_of_ble_eq_true rfl) rfl dL_law_1019 ?_
                                                                  refine g_aload_n C dL_law_1022 rfl ?_
                                                                  refine g_aload_n C dL_law_1023 rfl ?_
                                                                  refine g_iload_n C dL_law_1024 rfl ?_
                                                                  refine g_iconst (v := (1 : Int32)) C dL_law_1025 (by decide) ?_
                                                                  refine g_iadd C dL_law_1026 ?_
                                                                  obtain ⟨x205, hx205, hg, hf⟩ := xI_ok hf
                                                                  refine e_sld C hX dL_law_1027 hx205 hg ?_
                                                                  refine g_aload_n C dL_law_1028 rfl ?_
                                                                  refine g_iload_n C dL_law_1029 rfl ?_
                                                                  refine g_iconst (v := (2 : Int32)) C dL_law_1030 (by decide) ?_
                                                                  refine g_iadd C dL_law_1031 ?_
                                                                  obtain ⟨x206, hx206, hg, hf⟩ := xI_ok hf
                                                                  refine e_sld C hX dL_law_1032 hx206 hg ?_
                                                                  obtain ⟨x207, G208, hg, h1, hf⟩ := vH_ok hf
                                                                  refine g_invV (As := [.int x205, .int x206]) (st := [.int x203]) C (c_Mo_kept E h1) (rfl : vwCl[10]? = some (y_Mo_kept.cls, TX10, 24)) (by decide) hg ml_La_145 cm_Mo_kept.1 cm_Mo_kept.2.1 cm_Mo_kept.2.2.1 cm_Mo_kept.2.2.2.1 cm_Mo_kept.2.2.2.2 rfl ⟨by omega, by omega, by omega, by omega⟩ (by exact Nat.le_of_ble_eq_true rfl) rfl dL_law_1033 ?_
                                                                  refine g_icmp_eq (tgt := 1171) C dL_law_1036 (by decide) (fun hc => ?_) (fun hc => ?_)
                                                                  · have hf := iteT hf hc
                                                                    refine g_sub (lv' := [some (.ref bs), some (.ref (E.2.1 + l1)), some (.ref (E.2.1 + l2)), some (.int l3)]) ⟨rfl, ⟨rfl, ⟨rfl, ⟨rfl, trivial⟩⟩⟩⟩ ?_
                                                                    exact l_La_law_b1171 hX C HR K18 hf
                                                                  · have hf := iteF hf hc
                                                                    refine g_iconst (v := (0 : Int32)) C dL_law_1039 (by decide) ?_
                                                                    exact absurd (rH_ok hf).1 (by decide)
                                                                · have hf := iteF hf hc30
                                                                  by_cases hc31 : (x2 &&& (63 : Int32)) = 31
                                                                  · have hf := iteT hf hc31
                                                                    refine g_tabIn (tgt := 1041) C dL_law_33 31 (by rw [hc31]; rfl) (by decide) (by decide) rfl (by decide) ?_
                                                                    refine g_aload_n C dL_law_1041 rfl ?_
                                                                    refine g_aload_n C dL_law_1042 rfl ?_
                                                                    refine g_iload_n C dL_law_1043 rfl ?_
                                                                    refine g_iconst (v := (1 : Int32)) C dL_law_1044 (by decide) ?_
                                                                    refine g_iadd C dL_law_1045 ?_
                                                                    obtain ⟨x209, hx209, hg, hf⟩ := xI_ok hf
                                                                    refine e_sld C hX dL_law_1046 hx209 hg ?_
                                                                    obtain ⟨x210, G211, hg, h1, hf⟩ := vH_ok hf
                                                                    refine g_invV (As := [.int x209]) (st := []) C (c_Fa_part E h1) (rfl : vwCl[9]? = some (y_Fa_part.cls, TX9, 13)) (by decide) hg ml_La_146 cm_Fa_part.1 cm_Fa_part.2.1 cm_Fa_part.2.2.1 cm_Fa_part.2.2.2.1 cm_Fa_part.2.2.2.2 rfl ⟨by omega, by omega, by omega, by omega⟩ (by exact Nat.le_of_ble_eq_true rfl) rfl dL_law_1047 ?_
                                                                    refine g_aload_n C dL_law_1050 rfl ?_
                                                                    refine g_aload_n C dL_law_1051 rfl ?_
                                                                    refine g_iload_n C dL_law_1052 rfl ?_
                                                                    refine g_iconst (v := (1 : Int32)) C dL_law_1053 (by decide) ?_
                                                                    refine g_iadd C dL_law_1054 ?_
                                                                    obtain ⟨x212, hx212, hg, hf⟩ := xI_ok hf
                                                                    refine e_sld C hX dL_law_1055 hx212 hg ?_
                                                                    obtain ⟨x213, G214, hg, h1, hf⟩ := vH_ok hf
                                                                    refine g_invV (As := [.int x212]) (st := [.long x210]) C (c_Mo_part E h1) (rfl : vwCl[10]? = some (y_Mo_part.cls, TX10, 24)) (by decide) hg ml_La_150 cm_Mo_part.1 cm_Mo_part.2.1 cm_Mo_part.2.2.1 cm_Mo_part.2.2.2.1 cm_Mo_part.2.2.2.2 rfl ⟨by omega, by omega, by omega, by omega⟩ (by exact Nat.le_of_ble_eq_true rfl) rfl dL_law_1056 ?_
                                                                    refine g_lcmp C dL_law_1059 ?_
                                                                    refine g_if_eq (tgt := 1171) C dL_law_1060 (by decide) (fun hc => ?_) (fun hc => ?_)
                                                                    · have hf := iteT hf hc
                                                                      refine g_sub (lv' := [some (.ref bs), some (.ref (E.2.1 + l1)), some (.ref (E.2.1 + l2)), some (.int l3)]) ⟨rfl, ⟨rfl, ⟨rfl, ⟨rfl, trivial⟩⟩⟩⟩ ?_
                                                                      exact l_La_law_b1171 hX C HR K18 hf
                                                                    · have hf := iteF hf hc
                                                                      refine g_iconst (v := (0 : Int32)) C dL_law_1063 (by decide) ?_
                                                                      exact absurd (rH_ok hf).1 (by decide)
                                                                  · have hf := iteF hf hc31
                                                                    by_cases hc32 : (x2 &&& (63 : Int32)) = 32
                                                                    · have hf := iteT hf hc32
                                                                      refine g_tabIn (tgt := 1065) C dL_law_33 32 (by rw [hc32]; rfl) (by decide) (by decide) rfl (by decide) ?_
                                                                      refine g_aload_n C dL_law_1065 rfl ?_
                                                                      refine g_aload_n C dL_law_1066 rfl ?_
                                                                      refine g_iload_n C dL_law_1067 rfl ?_
                                                                      refine g_iconst (v := (1 : Int32)) C dL_law_1068 (by decide) ?_
                                                                      refine g_iadd C dL_law_1069 ?_
                                                                      obtain ⟨x215, hx215, hg, hf⟩ := xI_ok hf
                                                                      refine e_sld C hX dL_law_1070 hx215 hg ?_
                                                                      obtain ⟨x216, G217, hg, h1, hf⟩ := vH_ok hf
                                                                      refine g_invV (As := [.int x215]) (st := []) C (c_Fa_image E h1) (rfl : vwCl[9]? = some (y_Fa_image.cls, TX9, 13)) (by decide) hg ml_La_151 cm_Fa_image.1 cm_Fa_image.2.1 cm_Fa_image.2.2.1 cm_Fa_image.2.2.2.1 cm_Fa_image.2.2.2.2 rfl ⟨by omega, by omega, by omega, by omega⟩ (by exact Nat.le_of_ble_eq_true rfl) rfl dL_law_1071 ?_
                                                                      refine g_aload_n C dL_law_1074 rfl ?_
                                                                      refine g_aload_n C dL_law_1075 rfl ?_
                                                                      refine g_iload_n C dL_law_1076 rfl ?_
                                                                      refine g_iconst (v := (1 : Int32)) C dL_law_1077 (by decide) ?_
                                                                      refine g_iadd C dL_law_1078 ?_
                                                                      obtain ⟨x218, hx218, hg, hf⟩ := xI_ok hf
                                                                      refine e_sld C hX dL_law_1079 hx218 hg ?_
                                                                      obtain ⟨x219, G220, hg, h1, hf⟩ := vH_ok hf
                                                                      refine g_invV (As := [.int x218]) (st := [.int x216]) C (c_Mo_image E h1) (rfl : vwCl[10]? = some (y_Mo_image.cls, TX10, 24)) (by decide) hg ml_La_154 cm_Mo_image.1 cm_Mo_image.2.1 cm_Mo_image.2.2.1 cm_Mo_image.2.2.2.1 cm_Mo_image.2.2.2.2 rfl ⟨by omega, by omega, by omega, by omega⟩ (by exact Nat.le_of_ble_eq_true rfl) rfl dL_law_1080 ?_
                                                                      refine g_icmp_eq (tgt := 1171) C dL_law_1083 (by decide) (fun hc => ?_) (fun hc => ?_)
                                                                      · have hf := iteT hf hc
                                                                        refine g_sub (lv' := [some (.ref bs), some (.ref (E.2.1 + l1)), some (.ref (E.2.1 + l2)), some (.int l3)]) ⟨rfl, ⟨rfl, ⟨rfl, ⟨rfl, trivial⟩⟩⟩⟩ ?_
                                                                        exact l_La_law_b1171 hX C HR K18 hf
                                                                      · have hf := iteF hf hc
                                                                        refine g_iconst (v := (0 : Int32)) C dL_law_1086 (by decide) ?_
                                                                        exact absurd (rH_ok hf).1 (by decide)
                                                                    · have hf := iteF hf hc32
                                                                      by_cases hc33 : (x2 &&& (63 : Int32)) = 33
                                                                      · have hf := iteT hf hc33
                                                                        refine g_tabIn (tgt := 1088) C dL_law_33 33 (by rw [hc33]; rfl) (by decide) (by decide) rfl (by decide) ?_
                                                                        refine g_aload_n C dL_law_1088 rfl ?_
                                                                        refine g_aload_n C dL_law_1089 rfl ?_
                                                                        refine g_iload_n C dL_law_1090 rfl ?_
                                                                        refine g_iconst (v := (1 : Int32)) C dL_law_1091 (by decide) ?_
                                                                        refine g_iadd C dL_law_1092 ?_
                                                                        obtain ⟨x221, hx221, hg, hf⟩ := xI_ok hf
                                                                        refine e_sld C hX dL_law_1093 hx221 hg ?_
                                                                        obtain ⟨x222, G223, hg, h1, hf⟩ := vH_ok hf
                                                                        refine g_invV (As := [.int x221]) (st := []) C (c_Fa_from E h1) (rfl : vwCl[9]? = some (y_Fa_from.cls, TX9, 13)) (by decide) hg ml_La_155 cm_Fa_from.1 cm_Fa_from.2.1 cm_Fa_from.2.2.1 cm_Fa_from.2.2.2.1 cm_Fa_from.2.2.2.2 rfl ⟨by omega, by omega, by omega, by omega⟩ (by exact Nat.le_of_ble_eq_true rfl) rfl dL_law_1094 ?_
                                                                        refine g_aload_n C dL_law_1097 rfl ?_
                                                                        refine g_aload_n C dL_law_1098 rfl ?_
                                                                        refine g_iload_n C dL_law_1099 rfl ?_
                                                                        refine g_iconst (v := (1 : Int32)) C dL_law_1100 (by decide) ?_
                                                                        refine g_iadd C dL_law_1101 ?_
                                                                        obtain ⟨x224, hx224, hg, hf⟩ := xI_ok hf
                                                                        refine e_sld C hX dL_law_1102 hx224 hg ?_
                                                                        obtain ⟨x225, G226, hg, h1, hf⟩ := vH_ok hf
                                                                        refine g_invV (As := [.int x224]) (st := [.int x222]) C (c_Mo_from E h1) (rfl : vwCl[10]? = some (y_Mo_from.cls, TX10, 24)) (by decide) hg ml_La_158 cm_Mo_from.1 cm_Mo_from.2.1 cm_Mo_from.2.2.1 cm_Mo_from.2.2.2.1 cm_Mo_from.2.2.2.2 rfl ⟨by omega, by omega, by omega, by omega⟩ (by exact Nat.le_of_ble_eq_true rfl) rfl dL_law_1103 ?_
                                                                        refine g_icmp_eq (tgt := 1171) C dL_law_1106 (by decide) (fun hc => ?_) (fun hc => ?_)
                                                                        · have hf := iteT hf hc
                                                                          refine g_sub (lv' := [some (.ref bs), some (.ref (E.2.1 + l1)), some (.ref (E.2.1 + l2)), some (.int l3)]) ⟨rfl, ⟨rfl, ⟨rfl, ⟨rfl, trivial⟩⟩⟩⟩ ?_
                                                                          exact l_La_law_b1171 hX C HR K18 hf
                                                                        · have hf := iteF hf hc
                                                                          refine g_iconst (v := (0 : Int32)) C dL_law_1109 (by decide) ?_
                                                                          exact absurd (rH_ok hf).1 (by decide)
                                                                      · have hf := iteF hf hc33
                                                                        by_cases hc34 : (x2 &&& (63 : Int32)) = 34
                                                                        · have hf := iteT hf hc34
                                                                          refine g_tabIn (tgt := 1111) C dL_law_33 34 (by rw [hc34]; rfl) (by decide) (by decide) rfl (by decide) ?_
                                                                          refine g_aload_n C dL_law_1111 rfl ?_
                                                                          refine g_aload_n C dL_law_1112 rfl ?_
                                                                          refine g_iload_n C dL_law_1113 rfl ?_
                                                                          refine g_iconst (v := (1 : Int32)) C dL_law_1114 (by decide) ?_
                                                                          refine g_iadd C dL_law_1115 ?_
                                                                          obtain ⟨x227, hx227, hg, hf⟩ := xI_ok hf
                                                                          refine e_sld C hX dL_law_1116 hx227 hg ?_
                                                                          obtain ⟨x228, G229, hg, h1, hf⟩ := vH_ok hf
                                                                          refine g_invV (As := [.int x227]) (st := []) C (c_Fa_status E h1) (rfl : vwCl[9]? = some (y_Fa_status.cls, TX9, 13)) (by decide) hg ml_La_159 cm_Fa_status.1 cm_Fa_status.2.1 cm_Fa_status.2.2.1 cm_Fa_status.2.2.2.1 cm_Fa_status.2.2.2.2 rfl ⟨by omega, by omega, by omega, by omega⟩ (by exact Nat.le_of_ble_eq_true rfl) rfl dL_law_1117 ?_
                                                                          refine g_aload_n C dL_law_1120 rfl ?_
                                                                          refine g_aload_n C dL_law_1121 rfl ?_
                                                                          refine g_iload_n C dL_law_1122 rfl ?_
                                                                          refine g_iconst (v := (1 : Int32)) C dL_law_1123 (by decide) ?_
                                                                          refine g_iadd C dL_law_1124 ?_
                                                                          obtain ⟨x230, hx230, hg, hf⟩ := xI_ok hf
                                                                          refine e_sld C hX dL_law_1125 hx230 hg ?_
                                                                          obtain ⟨x231, G232, hg, h1, hf⟩ := vH_ok hf
                                                                          refine g_invV (As := [.int x230]) (st := [.int x228]) C (c_Mo_status E h1) (rfl : vwCl[10]? = some (y_Mo_status.cls, TX10, 24)) (by decide) hg ml_La_162 cm_Mo_status.1 cm_Mo_status.2.1 cm_Mo_status.2.2.1 cm_Mo_status.2.2.2.1 cm_Mo_status.2.2.2.2 rfl ⟨by omega, by omega, by omega, by omega⟩ (by exact Nat.le_of_ble_eq_true rfl) rfl dL_law_1126 ?_
                                                                          refine g_icmp_eq (tgt := 1171) C dL_law_1129 (by decide) (fun hc => ?_) (fun hc => ?_)
                                                                          · have hf := iteT hf hc
                                                                            refine g_sub (lv' := [some (.ref bs), some (.ref (E.2.1 + l1)), some (.ref (E.2.1 + l2)), some (.int l3)]) ⟨rfl, ⟨rfl, ⟨rfl, ⟨rfl, trivial⟩⟩⟩⟩ ?_
                                                                            exact l_La_law_b1171 hX C HR K18 hf
                                                                          · have hf := iteF hf hc
                                                                            refine g_iconst (v := (0 : Int32)) C dL_law_1132 (by decide) ?_
                                                                            exact absurd (rH_ok hf).1 (by decide)
                                                                        · have hf := iteF hf hc34
                                                                          by_cases hc35 : (x2 &&& (63 : Int32)) = 35
                                                                          · have hf := iteT hf hc35
                                                                            refine g_tabIn (tgt := 1134) C dL_law_33 35 (by rw [hc35]; rfl) (by decide) (by decide) rfl (by decide) ?_
                                                                            refine g_aload_n C dL_law_1134 rfl ?_
                                                                            refine g_aload_n C dL_law_1135 rfl ?_
                                                                            refine g_iload_n C dL_law_1136 rfl ?_
                                                                            refine g_iconst (v := (1 : Int32)) C dL_law_1137 (by decide) ?_
                                                                            refine g_iadd C dL_law_1138 ?_
                                                                            obtain ⟨x233, hx233, hg, hf⟩ := xI_ok hf
                                                                            refine e_sld C hX dL_law_1139 hx233 hg ?_
                                                                            obtain ⟨x234, G235, hg, h1, hf⟩ := vH_ok hf
                                                                            refine g_invV (As := [.int x233]) (st := []) C (c_Fa_count E h1) (rfl : vwCl[9]? = some (y_Fa_count.cls, TX9, 13)) (by decide) hg ml_La_163 cm_Fa_count.1 cm_Fa_count.2.1 cm_Fa_count.2.2.1 cm_Fa_count.2.2.2.1 cm_Fa_count.2.2.2.2 rfl ⟨by omega, by omega, by omega, by omega⟩ (by exact Nat.le_of_ble_eq_true rfl) rfl dL_law_1140 ?_
                                                                            refine g_aload_n C dL_law_1143 rfl ?_
                                                                            refine g_aload_n C dL_law_1144 rfl ?_
                                                                            refine g_iload_n C dL_law_1145 rfl ?_
                                                                            refine g_iconst (v := (1 : Int32)) C dL_law_1146 (by decide) ?_
                                                                            refine g_iadd C dL_law_1147 ?_
                                                                            obtain ⟨x236, hx236, hg, hf⟩ := xI_ok hf
                                                                            refine e_sld C hX dL_law_1148 hx236 hg ?_
                                                                            obtain ⟨x237, G238, hg, h1, hf⟩ := vH_ok hf
                                                                            refine g_invV (As := [.int x236]) (st := [.int x234]) C (c_Mo_count E h1) (rfl : vwCl[10]? = some (y_Mo_count.cls, TX10, 24)) (by decide) hg ml_La_166 cm_Mo_count.1 cm_Mo_count.2.1 cm_Mo_count.2.2.1 cm_Mo_count.2.2.2.1 cm_Mo_count.2.2.2.2 rfl ⟨by omega, by omega, by omega, by omega⟩ (by exact Nat.le_of_ble_eq_true rfl) rfl dL_law_1149 ?_
                                                                            refine g_icmp_eq (tgt := 1171) C dL_law_1152 (by decide) (fun hc => ?_) (fun hc => ?_)
                                                                            · have hf := iteT hf hc
                                                                              refine g_sub (lv' := [some (.ref bs), some (.ref (E.2.1 + l1)), some (.ref (E.2.1 + l2)), some (.int l3)]) ⟨rfl, ⟨rfl, ⟨rfl, ⟨rfl, trivial⟩⟩⟩⟩ ?_
                                                                              exact l_La_law_b1171 hX C HR K18 hf
                                                                            · have hf := iteF hf hc
                                                                              refine g_iconst (v := (0 : Int32)) C dL_law_1155 (by decide) ?_
                                                                              exact absurd (rH_ok hf).1 (by decide)
                                                                          · have hf := iteF hf hc35
                                                                            by_cases hc36 : (x2 &&& (63 : Int32)) = 36
                                                                            · have hf := iteT hf hc36
                                                                              refine g_tabIn (tgt := 1157) C dL_law_33 36 (by rw [hc36]; rfl) (by decide) (by decide) rfl (by decide) ?_
                                                                              refine g_aload_n C dL_law_1157 rfl ?_
                                                                              obtain ⟨x239, hg, h1, hf⟩ := vP_ok hf
                                                                              refine g_invV (As := []) (st := []) C (c_Fa_digest E h1) (rfl : vwCl[9]? = some (y_Fa_digest.cls, TX9, 13)) (by decide) hg ml_La_167 cm_Fa_digest.1 cm_Fa_digest.2.1 cm_Fa_digest.2.2.1 cm_Fa_digest.2.2.2.1 cm_Fa_digest.2.2.2.2 rfl ⟨by omega, by omega, by omega, by omega⟩ (by exact Nat.le_of_ble_eq_true rfl) rfl dL_law_1158 ?_
                                                                              refine g_aload_n C dL_law_1161 rfl ?_
                                                                              obtain ⟨x240, hg, h1, hf⟩ := vP_ok hf
                                                                              refine g_invV (As := []) (st := [.long x239]) C (c_Mo_digest E h1) (rfl : vwCl[10]? = some (y_Mo_digest.cls, TX10, 24)) (by decide) hg ml_La_171 cm_Mo_digest.1 cm_Mo_digest.2.1 cm_Mo_digest.2.2.1 cm_Mo_digest.2.2.2.1 cm_Mo_digest.2.2.2.2 rfl ⟨by omega, by omega, by omega, by omega⟩ (by exact Nat.le_of_ble_eq_true rfl) rfl dL_law_1162 ?_
                                                                              refine g_lcmp C dL_law_1165 ?_
                                                                              refine g_if_eq (tgt := 1171) C dL_law_1166 (by decide) (fun hc => ?_) (fun hc => ?_)
                                                                              · have hf := iteT hf hc
                                                                                refine g_sub (lv' := [some (.ref bs), some (.ref (E.2.1 + l1)), some (.ref (E.2.1 + l2)), some (.int l3)]) ⟨rfl, ⟨rfl, ⟨rfl, ⟨rfl, trivial⟩⟩⟩⟩ ?_
                                                                                exact l_La_law_b1171 hX C HR K18 hf
                                                                              · have hf := iteF hf hc
                                                                                refine g_iconst (v := (0 : Int32)) C dL_law_1169 (by decide) ?_
                                                                                exact absurd (rH_ok hf).1 (by decide)
                                                                            · have hf := iteF hf hc36
                                                                              have hi0 : ¬ (x2 &&& (63 : Int32)).toInt = 0 := fun h => hc0 (Int32.toInt_inj.mp (h.trans rfl))
                                                                              have hi1 : ¬ (x2 &&& (63 : Int32)).toInt = 1 := fun h => hc1 (Int32.toInt_inj.mp (h.trans rfl))
                                                                              have hi2 : ¬ (x2 &&& (63 : Int32)).toInt = 2 := fun h => hc2 (Int32.toInt_inj.mp (h.trans rfl))
                                                                              have hi3 : ¬ (x2 &&& (63 : Int32)).toInt = 3 := fun h => hc3 (Int32.toInt_inj.mp (h.trans rfl))
                                                                              have hi4 : ¬ (x2 &&& (63 : Int32)).toInt = 4 := fun h => hc4 (Int32.toInt_inj.mp (h.trans rfl))
                                                                              have hi5 : ¬ (x2 &&& (63 : Int32)).toInt = 5 := fun h => hc5 (Int32.toInt_inj.mp (h.trans rfl))
                                                                              have hi6 : ¬ (x2 &&& (63 : Int32)).toInt = 6 := fun h => hc6 (Int32.toInt_inj.mp (h.trans rfl))
                                                                              have hi7 : ¬ (x2 &&& (63 : Int32)).toInt = 7 := fun h => hc7 (Int32.toInt_inj.mp (h.trans rfl))
                                                                              have hi8 : ¬ (x2 &&& (63 : Int32)).toInt = 8 := fun h => hc8 (Int32.toInt_inj.mp (h.trans rfl))
                                                                              have hi9 : ¬ (x2 &&& (63 : Int32)).toInt = 9 := fun h => hc9 (Int32.toInt_inj.mp (h.trans rfl))
                                                                              have hi10 : ¬ (x2 &&& (63 : Int32)).toInt = 10 := fun h => hc10 (Int32.toInt_inj.mp (h.trans rfl))
                                                                              have hi11 : ¬ (x2 &&& (63 : Int32)).toInt = 11 := fun h => hc11 (Int32.toInt_inj.mp (h.trans rfl))
                                                                              have hi12 : ¬ (x2 &&& (63 : Int32)).toInt = 12 := fun h => hc12 (Int32.toInt_inj.mp (h.trans rfl))
                                                                              have hi13 : ¬ (x2 &&& (63 : Int32)).toInt = 13 := fun h => hc13 (Int32.toInt_inj.mp (h.trans rfl))
                                                                              have hi14 : ¬ (x2 &&& (63 : Int32)).toInt = 14 := fun h => hc14 (Int32.toInt_inj.mp (h.trans rfl))
                                                                              have hi15 : ¬ (x2 &&& (63 : Int32)).toInt = 15 := fun h => hc15 (Int32.toInt_inj.mp (h.trans rfl))
                                                                              have hi16 : ¬ (x2 &&& (63 : Int32)).toInt = 16 := fun h => hc16 (Int32.toInt_inj.mp (h.trans rfl))
                                                                              have hi17 : ¬ (x2 &&& (63 : Int32)).toInt = 17 := fun h => hc17 (Int32.toInt_inj.mp (h.trans rfl))
                                                                              have hi18 : ¬ (x2 &&& (63 : Int32)).toInt = 18 := fun h => hc18 (Int32.toInt_inj.mp (h.trans rfl))
                                                                              have hi19 : ¬ (x2 &&& (63 : Int32)).toInt = 19 := fun h => hc19 (Int32.toInt_inj.mp (h.trans rfl))
                                                                              have hi20 : ¬ (x2 &&& (63 : Int32)).toInt = 20 := fun h => hc20 (Int32.toInt_inj.mp (h.trans rfl))
                                                                              have hi21 : ¬ (x2 &&& (63 : Int32)).toInt = 21 := fun h => hc21 (Int32.toInt_inj.mp (h.trans rfl))
                                                                              have hi22 : ¬ (x2 &&& (63 : Int32)).toInt = 22 := fun h => hc22 (Int32.toInt_inj.mp (h.trans rfl))
                                                                              have hi23 : ¬ (x2 &&& (63 : Int32)).toInt = 23 := fun h => hc23 (Int32.toInt_inj.mp (h.trans rfl))
                                                                              have hi24 : ¬ (x2 &&& (63 : Int32)).toInt = 24 := fun h => hc24 (Int32.toInt_inj.mp (h.trans rfl))
                                                                              have hi25 : ¬ (x2 &&& (63 : Int32)).toInt = 25 := fun h => hc25 (Int32.toInt_inj.mp (h.trans rfl))
                                                                              have hi26 : ¬ (x2 &&& (63 : Int32)).toInt = 26 := fun h => hc26 (Int32.toInt_inj.mp (h.trans rfl))
                                                                              have hi27 : ¬ (x2 &&& (63 : Int32)).toInt = 27 := fun h => hc27 (Int32.toInt_inj.mp (h.trans rfl))
                                                                              have hi28 : ¬ (x2 &&& (63 : Int32)).toInt = 28 := fun h => hc28 (Int32.toInt_inj.mp (h.trans rfl))
                                                                              have hi29 : ¬ (x2 &&& (63 : Int32)).toInt = 29 := fun h => hc29 (Int32.toInt_inj.mp (h.trans rfl))
                                                                              have hi30 : ¬ (x2 &&& (63 : Int32)).toInt = 30 := fun h => hc30 (Int32.toInt_inj.mp (h.trans rfl))
                                                                              have hi31 : ¬ (x2 &&& (63 : Int32)).toInt = 31 := fun h => hc31 (Int32.toInt_inj.mp (h.trans rfl))
                                                                              have hi32 : ¬ (x2 &&& (63 : Int32)).toInt = 32 := fun h => hc32 (Int32.toInt_inj.mp (h.trans rfl))
                                                                              have hi33 : ¬ (x2 &&& (63 : Int32)).toInt = 33 := fun h => hc33 (Int32.toInt_inj.mp (h.trans rfl))
                                                                              have hi34 : ¬ (x2 &&& (63 : Int32)).toInt = 34 := fun h => hc34 (Int32.toInt_inj.mp (h.trans rfl))
                                                                              have hi35 : ¬ (x2 &&& (63 : Int32)).toInt = 35 := fun h => hc35 (Int32.toInt_inj.mp (h.trans rfl))
                                                                              have hi36 : ¬ (x2 &&& (63 : Int32)).toInt = 36 := fun h => hc36 (Int32.toInt_inj.mp (h.trans rfl))
                                                                              refine g_tabOut (tgt := 1171) C dL_law_33 (by omega) (by decide) ?_
                                                                              refine g_sub (lv' := [some (.ref bs), some (.ref (E.2.1 + l1)), some (.ref (E.2.1 + l2)), some (.int l3)]) ⟨rfl, ⟨rfl, ⟨rfl, ⟨rfl, trivial⟩⟩⟩⟩ ?_
                                                                              exact l_La_law_b1171 hX C HR K18 hf
theorem l_La_law_b18 {E : EE} {X : CT} {nS : Nat} {xS : Nat → Int32} {bs : Nat} (hX : gScr E X bs nS xS) (C : gCx E X cL_law "FavoursGoOffLaw" (some .boolean) 15 641 151 55703 false 4) {G' : Hp} (HR : ∀ {pc : Nat} {lv : List (Option Value)}, decode cL_law pc = .ok (.ireturn, 1) → gV E X 151 55703 G' pc lv [.int 1]) : ∀ (nn : Nat) {G : Hp} {l1 : Nat} {l2 : Nat} {l3 : Int32}, f_La_law_b18 nS xS nn G l1 l2 l3 = some ((1 : Int32), G') → gV E X 151 55703 G 18 [some (.ref bs), some (.ref (E.2.1 + l1)), some (.ref (E.2.1 + l2)), some (.int l3)] []
  | 0, _, _, _, _, hf => by have h0 : (none : Option (Int32 × Hp)) = some ((1 : Int32), G') := hf; cases h0
  | nn + 1, _, _, _, _, hf => l_La_law_b18k hX C HR (fun h => l_La_law_b18 hX C HR nn h) hf
set_option maxRecDepth 20000 in
theorem l_La_law {E : EE} {X : CT} {G : Hp} {nS : Nat} {xS : Nat → Int32} {bs : Nat} (hX : gScr E X bs nS xS) (C : gCx E X cL_law "FavoursGoOffLaw" (some .boolean) 15 641 151 55703 false 4) {G' : Hp} (HR : ∀ {pc : Nat} {lv : List (Option Value)}, decode cL_law pc = .ok (.ireturn, 1) → gV E X 151 55703 G' pc lv [.int 1]) (hf : f_La_law nS xS G = some ((1 : Int32), G')) : gV E X 0 0 G 0 [some (.ref bs), none, none, none] [] := by
  unfold f_La_law at hf
  obtain ⟨a2, G1, ha2, hG1, hf⟩ := nO_ok hf
  refine e_new C tyX9 (rfl : vwCl[9]? = some ("FavoursGoOff", TX9, 13)) (by decide) ul_9 tyX9_ok rfl ft_9 cl_La_7 in_Fa it_Fa (by omega) dL_law_0 ha2 hG1 ?_
  refine g_dup C dL_law_3 rfl ?_
  obtain ⟨G3, h1, hf⟩ := cP_ok hf
  refine g_invI (As := []) (st := [.ref (E.2.1 + a2)]) C (c_Fa_init E h1) ml_La_9 cm_Fa_init.1 cm_Fa_init.2.1 cm_Fa_init.2.2.1 cm_Fa_init.2.2.2.1 cm_Fa_init.2.2.2.2 rfl ⟨by omega, by omega, by omega, by omega⟩ (by exact Nat.le_of_ble_eq_true rfl) rfl dL_law_4 ?_
  refine g_astore_n (lv' := [some (.ref bs), some (.ref (E.2.1 + a2)), none, none]) C dL_law_7 (by decide) rfl ?_
  obtain ⟨a5, G4, ha5, hG4, hf⟩ := nO_ok hf
  refine e_new C tyX10 (rfl : vwCl[10]? = some ("FavoursGoOffModel", TX10, 24)) (by decide) ul_10 tyX10_ok rfl ft_10 cl_La_10 in_Mo it_Mo (by omega) dL_law_8 ha5 hG4 ?_
  refine g_dup C dL_law_11 rfl ?_
  obtain ⟨G6, h1, hf⟩ := cP_ok hf
  refine g_invI (As := []) (st := [.ref (E.2.1 + a5)]) C (c_Mo_init E h1) ml_La_12 cm_Mo_init.1 cm_Mo_init.2.1 cm_Mo_init.2.2.1 cm_Mo_init.2.2.2.1 cm_Mo_init.2.2.2.2 rfl ⟨by omega, by omega, by omega, by omega⟩ (by exact Nat.le_of_ble_eq_true rfl) rfl dL_law_12 ?_
  refine g_astore_n (lv' := [some (.ref bs), some (.ref (E.2.1 + a2)), some (.ref (E.2.1 + a5)), none]) C dL_law_15 (by decide) rfl ?_
  refine g_iconst (v := (0 : Int32)) C dL_law_16 (by decide) ?_
  refine g_istore_n (lv' := [some (.ref bs), some (.ref (E.2.1 + a2)), some (.ref (E.2.1 + a5)), some (.int (0 : Int32))]) C dL_law_17 (by decide) rfl ?_
  refine g_sub (lv' := [some (.ref bs), some (.ref (E.2.1 + a2)), some (.ref (E.2.1 + a5)), some (.int (0 : Int32))]) ⟨rfl, ⟨rfl, ⟨rfl, ⟨rfl, trivial⟩⟩⟩⟩ ?_
  exact l_La_law_b18 hX C HR  FU hf
