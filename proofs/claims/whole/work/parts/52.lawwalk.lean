theorem nI_sub5 {i L : Nat} (h : L < i + 5) (hi : i ≤ 2560) : nI L - 5 < nI i := by
  rw [Int32.lt_iff_toInt_lt, nI_toInt (by omega), show (5 : Int32) = nI 5 from rfl]
  have e : (nI L - nI 5).toInt = (L : Int) - 5 := by
    rw [Int32.toInt_sub, nI_toInt (by omega), nI_toInt (by omega)]
    rw [Int.bmod_eq_of_le] <;> omega
  rw [e]
  omega
def xcW {α : Type} [DecidableEq α] (a : Option (α × mH)) (b : mH → Option (α × mH)) : Option mH := a.bind fun r => (b r.2).bind fun s => if r.1 = s.1 then some s.2 else none
def xcR {α : Type} [DecidableEq α] (a : Option α) (h : mH) (b : mH → Option (α × mH)) : Option mH := a.bind fun r => (b h).bind fun s => if r = s.1 then some s.2 else none
theorem xcW_some {α : Type} [DecidableEq α] {a : Option (α × mH)} {b : mH → Option (α × mH)} {h2 : mH} (h : xcW a b = some h2) : ∃ r h1, a = some (r, h1) ∧ b h1 = some (r, h2) := by
  cases a with
  | none => cases h
  | some q =>
    obtain ⟨r, h1⟩ := q
    have h : (b h1).bind (fun s => if r = s.1 then some s.2 else none) = some h2 := h
    cases hb : b h1 with
    | none => rw [hb] at h; cases h
    | some s =>
      obtain ⟨r', h3⟩ := s
      rw [hb] at h
      have h : (if r = r' then some h3 else none) = some h2 := h
      by_cases e : r = r'
      · rw [if_pos e] at h
        cases h
        subst e
        exact ⟨r, h1, rfl, hb⟩
      · rw [if_neg e] at h; cases h
theorem xcR_some {α : Type} [DecidableEq α] {a : Option α} {h0 : mH} {b : mH → Option (α × mH)} {h2 : mH} (h : xcR a h0 b = some h2) : ∃ r, a = some r ∧ b h0 = some (r, h2) := by
  cases a with
  | none => cases h
  | some r =>
    have h : (b h0).bind (fun s => if r = s.1 then some s.2 else none) = some h2 := h
    cases hb : b h0 with
    | none => rw [hb] at h; cases h
    | some s =>
      obtain ⟨r', h3⟩ := s
      rw [hb] at h
      have h : (if r = r' then some h3 else none) = some h2 := h
      by_cases e : r = r'
      · rw [if_pos e] at h
        cases h
        subst e
        exact ⟨r, rfl, rfl⟩
      · rw [if_neg e] at h; cases h
set_option maxRecDepth 20000 in
set_option maxHeartbeats 4000000 in
theorem lc_0 {g : mG} {l : Launch} (hg : mnn g = 101) {b L : Nat} {xs : Nat → Int32} (N i : Nat) (hi : i + 5 ≤ L) (hL : L ≤ 2560) (h h2 : mH) (h1 : mH) (r : Int32) (hx : x_X8_write (xs (i + 1)) h = some (r, h1)) (hm : x_X9_write (xs (i + 1)) h1 = some (r, h2)) (K : lq g l b L xs 1115 [(0, .ref b), (1, .ref (mad g 0)), (2, .ref (mad g 82)), (3, .int (nI i))] [] h2) : lq g l b L xs 184 [(0, .ref b), (1, .ref (mad g 0)), (2, .ref (mad g 82)), (3, .int (nI i))] [] h := by
  refine lq_aload_n (n := 185) (q := 1) dL_law_184 rfl rfl rfl ?_
  refine lq_aload_n (n := 186) (q := 0) dL_law_185 rfl rfl rfl ?_
  refine lq_iload_n (n := 187) (q := 3) dL_law_186 rfl rfl rfl ?_
  refine lq_iconst (n := 188) (v := 1) dL_law_187 rfl (by decide) ?_
  refine lq_iadd (n := 189) dL_law_188 rfl ?_
  refine lq_sld (n := 190) (j := i + 1) (nI_pk i 1) (by omega) hL dL_law_189 rfl ?_
  refine lq_callV (n := 193) (a := 0) (As := [.int (xs (i + 1))]) cl8 (mkl (Or.inr hg) (by decide) (by rfl)) (t_X8_write (Or.inr hg) (xs (i + 1)) h) hx (by decide) ok_X8_write rfl rfl lk_L_13 im_X8_write se_X8_write dL_law_190 rfl rfl (Nat.le_of_ble_eq_true rfl) ?_
  show lq g l b L xs 193 [(0, .ref b), (1, .ref (mad g 0)), (2, .ref (mad g 82)), (3, .int (nI i))] [.int r] h1
  refine lq_aload_n (n := 194) (q := 2) dL_law_193 rfl rfl rfl ?_
  refine lq_aload_n (n := 195) (q := 0) dL_law_194 rfl rfl rfl ?_
  refine lq_iload_n (n := 196) (q := 3) dL_law_195 rfl rfl rfl ?_
  refine lq_iconst (n := 197) (v := 1) dL_law_196 rfl (by decide) ?_
  refine lq_iadd (n := 198) dL_law_197 rfl ?_
  refine lq_sld (n := 199) (j := i + 1) (nI_pk i 1) (by omega) hL dL_law_198 rfl ?_
  refine lq_callV (n := 202) (a := 82) (As := [.int (xs (i + 1))]) cl9 (mkm hg (by decide) (by rfl)) (t_X9_write hg (xs (i + 1)) h1) hm (by decide) ok_X9_write rfl rfl lk_L_17 im_X9_write se_X9_write dL_law_199 rfl rfl (Nat.le_of_ble_eq_true rfl) ?_
  show lq g l b L xs 202 [(0, .ref b), (1, .ref (mad g 0)), (2, .ref (mad g 82)), (3, .int (nI i))] [.int r, .int r] h2
  refine lq_same (t := 1115) dL_law_202 (by decide) rfl ?_
  exact K
set_option maxRecDepth 20000 in
set_option maxHeartbeats 4000000 in
theorem lc_1 {g : mG} {l : Launch} (hg : mnn g = 101) {b L : Nat} {xs : Nat → Int32} (N i : Nat) (hi : i + 5 ≤ L) (hL : L ≤ 2560) (h h2 : mH) (h1 : mH) (r : Int32) (hx : x_X8_wipe h = some (r, h1)) (hm : x_X9_wipe h1 = some (r, h2)) (K : lq g l b L xs 1115 [(0, .ref b), (1, .ref (mad g 0)), (2, .ref (mad g 82)), (3, .int (nI i))] [] h2) : lq g l b L xs 207 [(0, .ref b), (1, .ref (mad g 0)), (2, .ref (mad g 82)), (3, .int (nI i))] [] h := by
  refine lq_aload_n (n := 208) (q := 1) dL_law_207 rfl rfl rfl ?_
  refine lq_callV (n := 211) (a := 0) (As := []) cl8 (mkl (Or.inr hg) (by decide) (by rfl)) (t_X8_wipe (Or.inr hg) h) hx (by decide) ok_X8_wipe rfl rfl lk_L_18 im_X8_wipe se_X8_wipe dL_law_208 rfl rfl (Nat.le_of_ble_eq_true rfl) ?_
  show lq g l b L xs 211 [(0, .ref b), (1, .ref (mad g 0)), (2, .ref (mad g 82)), (3, .int (nI i))] [.int r] h1
  refine lq_aload_n (n := 212) (q := 2) dL_law_211 rfl rfl rfl ?_
  refine lq_callV (n := 215) (a := 82) (As := []) cl9 (mkm hg (by decide) (by rfl)) (t_X9_wipe hg h1) hm (by decide) ok_X9_wipe rfl rfl lk_L_22 im_X9_wipe se_X9_wipe dL_law_212 rfl rfl (Nat.le_of_ble_eq_true rfl) ?_
  show lq g l b L xs 215 [(0, .ref b), (1, .ref (mad g 0)), (2, .ref (mad g 82)), (3, .int (nI i))] [.int r, .int r] h2
  refine lq_same (t := 1115) dL_law_215 (by decide) rfl ?_
  exact K
set_option maxRecDepth 20000 in
set_option maxHeartbeats 4000000 in
theorem lc_2 {g : mG} {l : Launch} (hg : mnn g = 101) {b L : Nat} {xs : Nat → Int32} (N i : Nat) (hi : i + 5 ≤ L) (hL : L ≤ 2560) (h h2 : mH) (h1 : mH) (r : Int32) (hx : x_X8_fault N h = some (r, h1)) (hm : x_X9_fault N h1 = some (r, h2)) (K : lq g l b L xs 1115 [(0, .ref b), (1, .ref (mad g 0)), (2, .ref (mad g 82)), (3, .int (nI i))] [] h2) : lq g l b L xs 220 [(0, .ref b), (1, .ref (mad g 0)), (2, .ref (mad g 82)), (3, .int (nI i))] [] h := by
  refine lq_aload_n (n := 221) (q := 1) dL_law_220 rfl rfl rfl ?_
  refine lq_callV (n := 224) (a := 0) (As := []) cl8 (mkl (Or.inr hg) (by decide) (by rfl)) (t_X8_fault (Or.inr hg) N h) hx (by decide) ok_X8_fault rfl rfl lk_L_23 im_X8_fault se_X8_fault dL_law_221 rfl rfl (Nat.le_of_ble_eq_true rfl) ?_
  show lq g l b L xs 224 [(0, .ref b), (1, .ref (mad g 0)), (2, .ref (mad g 82)), (3, .int (nI i))] [.int r] h1
  refine lq_aload_n (n := 225) (q := 2) dL_law_224 rfl rfl rfl ?_
  refine lq_callV (n := 228) (a := 82) (As := []) cl9 (mkm hg (by decide) (by rfl)) (t_X9_fault hg N h1) hm (by decide) ok_X9_fault rfl rfl lk_L_26 im_X9_fault se_X9_fault dL_law_225 rfl rfl (Nat.le_of_ble_eq_true rfl) ?_
  show lq g l b L xs 228 [(0, .ref b), (1, .ref (mad g 0)), (2, .ref (mad g 82)), (3, .int (nI i))] [.int r, .int r] h2
  refine lq_same (t := 1115) dL_law_228 (by decide) rfl ?_
  exact K
set_option maxRecDepth 20000 in
set_option maxHeartbeats 4000000 in
theorem lc_3 {g : mG} {l : Launch} (hg : mnn g = 101) {b L : Nat} {xs : Nat → Int32} (N i : Nat) (hi : i + 5 ≤ L) (hL : L ≤ 2560) (h h2 : mH) (h1 : mH) (r : Int32) (hx : x_X8_sheet N h = some (r, h1)) (hm : x_X9_sheet N h1 = some (r, h2)) (K : lq g l b L xs 1115 [(0, .ref b), (1, .ref (mad g 0)), (2, .ref (mad g 82)), (3, .int (nI i))] [] h2) : lq g l b L xs 233 [(0, .ref b), (1, .ref (mad g 0)), (2, .ref (mad g 82)), (3, .int (nI i))] [] h := by
  refine lq_aload_n (n := 234) (q := 1) dL_law_233 rfl rfl rfl ?_
  refine lq_callV (n := 237) (a := 0) (As := []) cl8 (mkl (Or.inr hg) (by decide) (by rfl)) (t_X8_sheet (Or.inr hg) N h) hx (by decide) ok_X8_sheet rfl rfl lk_L_27 im_X8_sheet se_X8_sheet dL_law_234 rfl rfl (Nat.le_of_ble_eq_true rfl) ?_
  show lq g l b L xs 237 [(0, .ref b), (1, .ref (mad g 0)), (2, .ref (mad g 82)), (3, .int (nI i))] [.int r] h1
  refine lq_aload_n (n := 238) (q := 2) dL_law_237 rfl rfl rfl ?_
  refine lq_callV (n := 241) (a := 82) (As := []) cl9 (mkm hg (by decide) (by rfl)) (t_X9_sheet hg N h1) hm (by decide) ok_X9_sheet rfl rfl lk_L_30 im_X9_sheet se_X9_sheet dL_law_238 rfl rfl (Nat.le_of_ble_eq_true rfl) ?_
  show lq g l b L xs 241 [(0, .ref b), (1, .ref (mad g 0)), (2, .ref (mad g 82)), (3, .int (nI i))] [.int r, .int r] h2
  refine lq_same (t := 1115) dL_law_241 (by decide) rfl ?_
  exact K
set_option maxRecDepth 20000 in
set_option maxHeartbeats 4000000 in
theorem lc_4 {g : mG} {l : Launch} (hg : mnn g = 101) {b L : Nat} {xs : Nat → Int32} (N i : Nat) (hi : i + 5 ≤ L) (hL : L ≤ 2560) (h h2 : mH) (r : Int32) (hx : x_X8_total (xs (i + 1)) (xs (i + 2)) h = some r) (hm : x_X9_total (xs (i + 1)) (xs (i + 2)) h = some (r, h2)) (K : lq g l b L xs 1115 [(0, .ref b), (1, .ref (mad g 0)), (2, .ref (mad g 82)), (3, .int (nI i))] [] h2) : lq g l b L xs 246 [(0, .ref b), (1, .ref (mad g 0)), (2, .ref (mad g 82)), (3, .int (nI i))] [] h := by
  refine lq_aload_n (n := 247) (q := 1) dL_law_246 rfl rfl rfl ?_
  refine lq_aload_n (n := 248) (q := 0) dL_law_247 rfl rfl rfl ?_
  refine lq_iload_n (n := 249) (q := 3) dL_law_248 rfl rfl rfl ?_
  refine lq_iconst (n := 250) (v := 1) dL_law_249 rfl (by decide) ?_
  refine lq_iadd (n := 251) dL_law_250 rfl ?_
  refine lq_sld (n := 252) (j := i + 1) (nI_pk i 1) (by omega) hL dL_law_251 rfl ?_
  refine lq_aload_n (n := 253) (q := 0) dL_law_252 rfl rfl rfl ?_
  refine lq_iload_n (n := 254) (q := 3) dL_law_253 rfl rfl rfl ?_
  refine lq_iconst (n := 255) (v := 2) dL_law_254 rfl (by decide) ?_
  refine lq_iadd (n := 256) dL_law_255 rfl ?_
  refine lq_sld (n := 257) (j := i + 2) (nI_pk i 2) (by omega) hL dL_law_256 rfl ?_
  refine lq_callV (n := 260) (a := 0) (As := [.int (xs (i + 1)), .int (xs (i + 2))]) cl8 (mkl (Or.inr hg) (by decide) (by rfl)) (t_X8_total (Or.inr hg) (xs (i + 1)) (xs (i + 2)) h) hx (by decide) ok_X8_total rfl rfl lk_L_31 im_X8_total se_X8_total dL_law_257 rfl rfl (Nat.le_of_ble_eq_true rfl) ?_
  show lq g l b L xs 260 [(0, .ref b), (1, .ref (mad g 0)), (2, .ref (mad g 82)), (3, .int (nI i))] [.int r] h
  refine lq_aload_n (n := 261) (q := 2) dL_law_260 rfl rfl rfl ?_
  refine lq_aload_n (n := 262) (q := 0) dL_law_261 rfl rfl rfl ?_
  refine lq_iload_n (n := 263) (q := 3) dL_law_262 rfl rfl rfl ?_
  refine lq_iconst (n := 264) (v := 1) dL_law_263 rfl (by decide) ?_
  refine lq_iadd (n := 265) dL_law_264 rfl ?_
  refine lq_sld (n := 266) (j := i + 1) (nI_pk i 1) (by omega) hL dL_law_265 rfl ?_
  refine lq_aload_n (n := 267) (q := 0) dL_law_266 rfl rfl rfl ?_
  refine lq_iload_n (n := 268) (q := 3) dL_law_267 rfl rfl rfl ?_
  refine lq_iconst (n := 269) (v := 2) dL_law_268 rfl (by decide) ?_
  refine lq_iadd (n := 270) dL_law_269 rfl ?_
  refine lq_sld (n := 271) (j := i + 2) (nI_pk i 2) (by omega) hL dL_law_270 rfl ?_
  refine lq_callV (n := 274) (a := 82) (As := [.int (xs (i + 1)), .int (xs (i + 2))]) cl9 (mkm hg (by decide) (by rfl)) (t_X9_total hg (xs (i + 1)) (xs (i + 2)) h) hm (by decide) ok_X9_total rfl rfl lk_L_35 im_X9_total se_X9_total dL_law_271 rfl rfl (Nat.le_of_ble_eq_true rfl) ?_
  show lq g l b L xs 274 [(0, .ref b), (1, .ref (mad g 0)), (2, .ref (mad g 82)), (3, .int (nI i))] [.int r, .int r] h2
  refine lq_same (t := 1115) dL_law_274 (by decide) rfl ?_
  exact K
set_option maxRecDepth 20000 in
set_option maxHeartbeats 4000000 in
theorem lc_5 {g : mG} {l : Launch} (hg : mnn g = 101) {b L : Nat} {xs : Nat → Int32} (N i : Nat) (hi : i + 5 ≤ L) (hL : L ≤ 2560) (h h2 : mH) (r : Int32) (hx : x_X8_pin (xs (i + 1)) h = some r) (hm : x_X9_pin (xs (i + 1)) h = some (r, h2)) (K : lq g l b L xs 1115 [(0, .ref b), (1, .ref (mad g 0)), (2, .ref (mad g 82)), (3, .int (nI i))] [] h2) : lq g l b L xs 279 [(0, .ref b), (1, .ref (mad g 0)), (2, .ref (mad g 82)), (3, .int (nI i))] [] h := by
  refine lq_aload_n (n := 280) (q := 1) dL_law_279 rfl rfl rfl ?_
  refine lq_aload_n (n := 281) (q := 0) dL_law_280 rfl rfl rfl ?_
  refine lq_iload_n (n := 282) (q := 3) dL_law_281 rfl rfl rfl ?_
  refine lq_iconst (n := 283) (v := 1) dL_law_282 rfl (by decide) ?_
  refine lq_iadd (n := 284) dL_law_283 rfl ?_
  refine lq_sld (n := 285) (j := i + 1) (nI_pk i 1) (by omega) hL dL_law_284 rfl ?_
  refine lq_callV (n := 288) (a := 0) (As := [.int (xs (i + 1))]) cl8 (mkl (Or.inr hg) (by decide) (by rfl)) (t_X8_pin (Or.inr hg) (xs (i + 1)) h) hx (by decide) ok_X8_pin rfl rfl lk_L_36 im_X8_pin se_X8_pin dL_law_285 rfl rfl (Nat.le_of_ble_eq_true rfl) ?_
  show lq g l b L xs 288 [(0, .ref b), (1, .ref (mad g 0)), (2, .ref (mad g 82)), (3, .int (nI i))] [.int r] h
  refine lq_aload_n (n := 289) (q := 2) dL_law_288 rfl rfl rfl ?_
  refine lq_aload_n (n := 290) (q := 0) dL_law_289 rfl rfl rfl ?_
  refine lq_iload_n (n := 291) (q := 3) dL_law_290 rfl rfl rfl ?_
  refine lq_iconst (n := 292) (v := 1) dL_law_291 rfl (by decide) ?_
  refine lq_iadd (n := 293) dL_law_292 rfl ?_
  refine lq_sld (n := 294) (j := i + 1) (nI_pk i 1) (by omega) hL dL_law_293 rfl ?_
  refine lq_callV (n := 297) (a := 82) (As := [.int (xs (i + 1))]) cl9 (mkm hg (by decide) (by rfl)) (t_X9_pin hg (xs (i + 1)) h) hm (by decide) ok_X9_pin rfl rfl lk_L_39 im_X9_pin se_X9_pin dL_law_294 rfl rfl (Nat.le_of_ble_eq_true rfl) ?_
  show lq g l b L xs 297 [(0, .ref b), (1, .ref (mad g 0)), (2, .ref (mad g 82)), (3, .int (nI i))] [.int r, .int r] h2
  refine lq_same (t := 1115) dL_law_297 (by decide) rfl ?_
  exact K
set_option maxRecDepth 20000 in
set_option maxHeartbeats 4000000 in
theorem lc_6 {g : mG} {l : Launch} (hg : mnn g = 101) {b L : Nat} {xs : Nat → Int32} (N i : Nat) (hi : i + 5 ≤ L) (hL : L ≤ 2560) (h h2 : mH) (h1 : mH) (r : Int32) (hx : x_X8_test N h = some (r, h1)) (hm : x_X9_test N h1 = some (r, h2)) (K : lq g l b L xs 1115 [(0, .ref b), (1, .ref (mad g 0)), (2, .ref (mad g 82)), (3, .int (nI i))] [] h2) : lq g l b L xs 302 [(0, .ref b), (1, .ref (mad g 0)), (2, .ref (mad g 82)), (3, .int (nI i))] [] h := by
  refine lq_aload_n (n := 303) (q := 1) dL_law_302 rfl rfl rfl ?_
  refine lq_callV (n := 306) (a := 0) (As := []) cl8 (mkl (Or.inr hg) (by decide) (by rfl)) (t_X8_test (Or.inr hg) N h) hx (by decide) ok_X8_test rfl rfl lk_L_40 im_X8_test se_X8_test dL_law_303 rfl rfl (Nat.le_of_ble_eq_true rfl) ?_
  show lq g l b L xs 306 [(0, .ref b), (1, .ref (mad g 0)), (2, .ref (mad g 82)), (3, .int (nI i))] [.int r] h1
  refine lq_aload_n (n := 307) (q := 2) dL_law_306 rfl rfl rfl ?_
  refine lq_callV (n := 310) (a := 82) (As := []) cl9 (mkm hg (by decide) (by rfl)) (t_X9_test hg N h1) hm (by decide) ok_X9_test rfl rfl lk_L_43 im_X9_test se_X9_test dL_law_307 rfl rfl (Nat.le_of_ble_eq_true rfl) ?_
  show lq g l b L xs 310 [(0, .ref b), (1, .ref (mad g 0)), (2, .ref (mad g 82)), (3, .int (nI i))] [.int r, .int r] h2
  refine lq_same (t := 1115) dL_law_310 (by decide) rfl ?_
  exact K
set_option maxRecDepth 20000 in
set_option maxHeartbeats 4000000 in
theorem lc_7 {g : mG} {l : Launch} (hg : mnn g = 101) {b L : Nat} {xs : Nat → Int32} (N i : Nat) (hi : i + 5 ≤ L) (hL : L ≤ 2560) (h h2 : mH) (h1 : mH) (r : Int32) (hx : x_X8_filled N (xs (i + 1)) h = some (r, h1)) (hm : x_X9_filled N (xs (i + 1)) h1 = some (r, h2)) (K : lq g l b L xs 1115 [(0, .ref b), (1, .ref (mad g 0)), (2, .ref (mad g 82)), (3, .int (nI i))] [] h2) : lq g l b L xs 315 [(0, .ref b), (1, .ref (mad g 0)), (2, .ref (mad g 82)), (3, .int (nI i))] [] h := by
  refine lq_aload_n (n := 316) (q := 1) dL_law_315 rfl rfl rfl ?_
  refine lq_aload_n (n := 317) (q := 0) dL_law_316 rfl rfl rfl ?_
  refine lq_iload_n (n := 318) (q := 3) dL_law_317 rfl rfl rfl ?_
  refine lq_iconst (n := 319) (v := 1) dL_law_318 rfl (by decide) ?_
  refine lq_iadd (n := 320) dL_law_319 rfl ?_
  refine lq_sld (n := 321) (j := i + 1) (nI_pk i 1) (by omega) hL dL_law_320 rfl ?_
  refine lq_callV (n := 324) (a := 0) (As := [.int (xs (i + 1))]) cl8 (mkl (Or.inr hg) (by decide) (by rfl)) (t_X8_filled (Or.inr hg) N (xs (i + 1)) h) hx (by decide) ok_X8_filled rfl rfl lk_L_44 im_X8_filled se_X8_filled dL_law_321 rfl rfl (Nat.le_of_ble_eq_true rfl) ?_
  show lq g l b L xs 324 [(0, .ref b), (1, .ref (mad g 0)), (2, .ref (mad g 82)), (3, .int (nI i))] [.int r] h1
  refine lq_aload_n (n := 325) (q := 2) dL_law_324 rfl rfl rfl ?_
  refine lq_aload_n (n := 326) (q := 0) dL_law_325 rfl rfl rfl ?_
  refine lq_iload_n (n := 327) (q := 3) dL_law_326 rfl rfl rfl ?_
  refine lq_iconst (n := 328) (v := 1) dL_law_327 rfl (by decide) ?_
  refine lq_iadd (n := 329) dL_law_328 rfl ?_
  refine lq_sld (n := 330) (j := i + 1) (nI_pk i 1) (by omega) hL dL_law_329 rfl ?_
  refine lq_callV (n := 333) (a := 82) (As := [.int (xs (i + 1))]) cl9 (mkm hg (by decide) (by rfl)) (t_X9_filled hg N (xs (i + 1)) h1) hm (by decide) ok_X9_filled rfl rfl lk_L_47 im_X9_filled se_X9_filled dL_law_330 rfl rfl (Nat.le_of_ble_eq_true rfl) ?_
  show lq g l b L xs 333 [(0, .ref b), (1, .ref (mad g 0)), (2, .ref (mad g 82)), (3, .int (nI i))] [.int r, .int r] h2
  refine lq_same (t := 1115) dL_law_333 (by decide) rfl ?_
  exact K
set_option maxRecDepth 20000 in
set_option maxHeartbeats 4000000 in
theorem lc_8 {g : mG} {l : Launch} (hg : mnn g = 101) {b L : Nat} {xs : Nat → Int32} (N i : Nat) (hi : i + 5 ≤ L) (hL : L ≤ 2560) (h h2 : mH) (h1 : mH) (r : Int32) (hx : x_X8_mended N (xs (i + 1)) h = some (r, h1)) (hm : x_X9_mended N (xs (i + 1)) h1 = some (r, h2)) (K : lq g l b L xs 1115 [(0, .ref b), (1, .ref (mad g 0)), (2, .ref (mad g 82)), (3, .int (nI i))] [] h2) : lq g l b L xs 338 [(0, .ref b), (1, .ref (mad g 0)), (2, .ref (mad g 82)), (3, .int (nI i))] [] h := by
  refine lq_aload_n (n := 339) (q := 1) dL_law_338 rfl rfl rfl ?_
  refine lq_aload_n (n := 340) (q := 0) dL_law_339 rfl rfl rfl ?_
  refine lq_iload_n (n := 341) (q := 3) dL_law_340 rfl rfl rfl ?_
  refine lq_iconst (n := 342) (v := 1) dL_law_341 rfl (by decide) ?_
  refine lq_iadd (n := 343) dL_law_342 rfl ?_
  refine lq_sld (n := 344) (j := i + 1) (nI_pk i 1) (by omega) hL dL_law_343 rfl ?_
  refine lq_callV (n := 347) (a := 0) (As := [.int (xs (i + 1))]) cl8 (mkl (Or.inr hg) (by decide) (by rfl)) (t_X8_mended (Or.inr hg) N (xs (i + 1)) h) hx (by decide) ok_X8_mended rfl rfl lk_L_48 im_X8_mended se_X8_mended dL_law_344 rfl rfl (Nat.le_of_ble_eq_true rfl) ?_
  show lq g l b L xs 347 [(0, .ref b), (1, .ref (mad g 0)), (2, .ref (mad g 82)), (3, .int (nI i))] [.int r] h1
  refine lq_aload_n (n := 348) (q := 2) dL_law_347 rfl rfl rfl ?_
  refine lq_aload_n (n := 349) (q := 0) dL_law_348 rfl rfl rfl ?_
  refine lq_iload_n (n := 350) (q := 3) dL_law_349 rfl rfl rfl ?_
  refine lq_iconst (n := 351) (v := 1) dL_law_350 rfl (by decide) ?_
  refine lq_iadd (n := 352) dL_law_351 rfl ?_
  refine lq_sld (n := 353) (j := i + 1) (nI_pk i 1) (by omega) hL dL_law_352 rfl ?_
  refine lq_callV (n := 356) (a := 82) (As := [.int (xs (i + 1))]) cl9 (mkm hg (by decide) (by rfl)) (t_X9_mended hg N (xs (i + 1)) h1) hm (by decide) ok_X9_mended rfl rfl lk_L_51 im_X9_mended se_X9_mended dL_law_353 rfl rfl (Nat.le_of_ble_eq_true rfl) ?_
  show lq g l b L xs 356 [(0, .ref b), (1, .ref (mad g 0)), (2, .ref (mad g 82)), (3, .int (nI i))] [.int r, .int r] h2
  refine lq_same (t := 1115) dL_law_356 (by decide) rfl ?_
  exact K
set_option maxRecDepth 20000 in
set_option maxHeartbeats 4000000 in
theorem lc_9 {g : mG} {l : Launch} (hg : mnn g = 101) {b L : Nat} {xs : Nat → Int32} (N i : Nat) (hi : i + 5 ≤ L) (hL : L ≤ 2560) (h h2 : mH) (r : Int32) (hx : x_X8_answers h = some r) (hm : x_X9_answers N h = some (r, h2)) (K : lq g l b L xs 1115 [(0, .ref b), (1, .ref (mad g 0)), (2, .ref (mad g 82)), (3, .int (nI i))] [] h2) : lq g l b L xs 361 [(0, .ref b), (1, .ref (mad g 0)), (2, .ref (mad g 82)), (3, .int (nI i))] [] h := by
  refine lq_aload_n (n := 362) (q := 1) dL_law_361 rfl rfl rfl ?_
  refine lq_callV (n := 365) (a := 0) (As := []) cl8 (mkl (Or.inr hg) (by decide) (by rfl)) (t_X8_answers (Or.inr hg) h) hx (by decide) ok_X8_answers rfl rfl lk_L_52 im_X8_answers se_X8_answers dL_law_362 rfl rfl (Nat.le_of_ble_eq_true rfl) ?_
  show lq g l b L xs 365 [(0, .ref b), (1, .ref (mad g 0)), (2, .ref (mad g 82)), (3, .int (nI i))] [.int r] h
  refine lq_aload_n (n := 366) (q := 2) dL_law_365 rfl rfl rfl ?_
  refine lq_callV (n := 369) (a := 82) (As := []) cl9 (mkm hg (by decide) (by rfl)) (t_X9_answers hg N h) hm (by decide) ok_X9_answers rfl rfl lk_L_55 im_X9_answers se_X9_answers dL_law_366 rfl rfl (Nat.le_of_ble_eq_true rfl) ?_
  show lq g l b L xs 369 [(0, .ref b), (1, .ref (mad g 0)), (2, .ref (mad g 82)), (3, .int (nI i))] [.int r, .int r] h2
  refine lq_same (t := 1115) dL_law_369 (by decide) rfl ?_
  exact K
set_option maxRecDepth 20000 in
set_option maxHeartbeats 4000000 in
theorem lc_10 {g : mG} {l : Launch} (hg : mnn g = 101) {b L : Nat} {xs : Nat → Int32} (N i : Nat) (hi : i + 5 ≤ L) (hL : L ≤ 2560) (h h2 : mH) (r : Int32) (hx : x_X8_cell N (xs (i + 1)) (xs (i + 2)) h = some r) (hm : x_X9_cell N (xs (i + 1)) (xs (i + 2)) h = some (r, h2)) (K : lq g l b L xs 1115 [(0, .ref b), (1, .ref (mad g 0)), (2, .ref (mad g 82)), (3, .int (nI i))] [] h2) : lq g l b L xs 374 [(0, .ref b), (1, .ref (mad g 0)), (2, .ref (mad g 82)), (3, .int (nI i))] [] h := by
  refine lq_aload_n (n := 375) (q := 1) dL_law_374 rfl rfl rfl ?_
  refine lq_aload_n (n := 376) (q := 0) dL_law_375 rfl rfl rfl ?_
  refine lq_iload_n (n := 377) (q := 3) dL_law_376 rfl rfl rfl ?_
  refine lq_iconst (n := 378) (v := 1) dL_law_377 rfl (by decide) ?_
  refine lq_iadd (n := 379) dL_law_378 rfl ?_
  refine lq_sld (n := 380) (j := i + 1) (nI_pk i 1) (by omega) hL dL_law_379 rfl ?_
  refine lq_aload_n (n := 381) (q := 0) dL_law_380 rfl rfl rfl ?_
  refine lq_iload_n (n := 382) (q := 3) dL_law_381 rfl rfl rfl ?_
  refine lq_iconst (n := 383) (v := 2) dL_law_382 rfl (by decide) ?_
  refine lq_iadd (n := 384) dL_law_383 rfl ?_
  refine lq_sld (n := 385) (j := i + 2) (nI_pk i 2) (by omega) hL dL_law_384 rfl ?_
  refine lq_callV (n := 388) (a := 0) (As := [.int (xs (i + 1)), .int (xs (i + 2))]) cl8 (mkl (Or.inr hg) (by decide) (by rfl)) (t_X8_cell (Or.inr hg) N (xs (i + 1)) (xs (i + 2)) h) hx (by decide) ok_X8_cell rfl rfl lk_L_56 im_X8_cell se_X8_cell dL_law_385 rfl rfl (Nat.le_of_ble_eq_true rfl) ?_
  show lq g l b L xs 388 [(0, .ref b), (1, .ref (mad g 0)), (2, .ref (mad g 82)), (3, .int (nI i))] [.int r] h
  refine lq_aload_n (n := 389) (q := 2) dL_law_388 rfl rfl rfl ?_
  refine lq_aload_n (n := 390) (q := 0) dL_law_389 rfl rfl rfl ?_
  refine lq_iload_n (n := 391) (q := 3) dL_law_390 rfl rfl rfl ?_
  refine lq_iconst (n := 392) (v := 1) dL_law_391 rfl (by decide) ?_
  refine lq_iadd (n := 393) dL_law_392 rfl ?_
  refine lq_sld (n := 394) (j := i + 1) (nI_pk i 1) (by omega) hL dL_law_393 rfl ?_
  refine lq_aload_n (n := 395) (q := 0) dL_law_394 rfl rfl rfl ?_
  refine lq_iload_n (n := 396) (q := 3) dL_law_395 rfl rfl rfl ?_
  refine lq_iconst (n := 397) (v := 2) dL_law_396 rfl (by decide) ?_
  refine lq_iadd (n := 398) dL_law_397 rfl ?_
  refine lq_sld (n := 399) (j := i + 2) (nI_pk i 2) (by omega) hL dL_law_398 rfl ?_
  refine lq_callV (n := 402) (a := 82) (As := [.int (xs (i + 1)), .int (xs (i + 2))]) cl9 (mkm hg (by decide) (by rfl)) (t_X9_cell hg N (xs (i + 1)) (xs (i + 2)) h) hm (by decide) ok_X9_cell rfl rfl lk_L_59 im_X9_cell se_X9_cell dL_law_399 rfl rfl (Nat.le_of_ble_eq_true rfl) ?_
  show lq g l b L xs 402 [(0, .ref b), (1, .ref (mad g 0)), (2, .ref (mad g 82)), (3, .int (nI i))] [.int r, .int r] h2
  refine lq_same (t := 1115) dL_law_402 (by decide) rfl ?_
  exact K
set_option maxRecDepth 20000 in
set_option maxHeartbeats 4000000 in
theorem lc_11 {g : mG} {l : Launch} (hg : mnn g = 101) {b L : Nat} {xs : Nat → Int32} (N i : Nat) (hi : i + 5 ≤ L) (hL : L ≤ 2560) (h h2 : mH) (r : Int32) (hx : x_X8_odds N (xs (i + 1)) (if (xs (i + 2)) = 0 then 0 else 1) h = some r) (hm : x_X9_odds N (xs (i + 1)) (if (xs (i + 2)) = 0 then 0 else 1) h = some (r, h2)) (K : lq g l b L xs 1115 [(0, .ref b), (1, .ref (mad g 0)), (2, .ref (mad g 82)), (3, .int (nI i))] [] h2) : lq g l b L xs 407 [(0, .ref b), (1, .ref (mad g 0)), (2, .ref (mad g 82)), (3, .int (nI i))] [] h := by
  refine lq_aload_n (n := 408) (q := 1) dL_law_407 rfl rfl rfl ?_
  refine lq_aload_n (n := 409) (q := 0) dL_law_408 rfl rfl rfl ?_
  refine lq_iload_n (n := 410) (q := 3) dL_law_409 rfl rfl rfl ?_
  refine lq_iconst (n := 411) (v := 1) dL_law_410 rfl (by decide) ?_
  refine lq_iadd (n := 412) dL_law_411 rfl ?_
  refine lq_sld (n := 413) (j := i + 1) (nI_pk i 1) (by omega) hL dL_law_412 rfl ?_
  refine lq_aload_n (n := 414) (q := 0) dL_law_413 rfl rfl rfl ?_
  refine lq_iload_n (n := 415) (q := 3) dL_law_414 rfl rfl rfl ?_
  refine lq_iconst (n := 416) (v := 2) dL_law_415 rfl (by decide) ?_
  refine lq_iadd (n := 417) dL_law_416 rfl ?_
  refine lq_sld (n := 418) (j := i + 2) (nI_pk i 2) (by omega) hL dL_law_417 rfl ?_
  refine lq_cutJ (pc' := 426) (lv' := [(0, .ref b), (1, .ref (mad g 0)), (2, .ref (mad g 82)), (3, .int (nI i))]) (st' := [.int (if (xs (i + 2)) = 0 then 0 else 1), .int (xs (i + 1)), .ref (mad g 0)]) (fun J => ?_) ?_
  · refine lq_if_eq (n := 421) (t := 425) dL_law_418 rfl (by decide) (fun c => ?_) (fun c => ?_)
    · refine lq_iconst (n := 426) (v := 0) dL_law_425 rfl (by decide) ?_
      exact lq_topeq (if_pos c).symm J
    · refine lq_iconst (n := 422) (v := 1) dL_law_421 rfl (by decide) ?_
      refine lq_goto (n := 426) dL_law_422 (by decide) ?_
      exact lq_topeq (if_neg c).symm J
  refine lq_callV (n := 429) (a := 0) (As := [.int (xs (i + 1)), .int (if (xs (i + 2)) = 0 then 0 else 1)]) cl8 (mkl (Or.inr hg) (by decide) (by rfl)) (t_X8_odds (Or.inr hg) N (xs (i + 1)) (if (xs (i + 2)) = 0 then 0 else 1) h) hx (by decide) ok_X8_odds rfl rfl lk_L_60 im_X8_odds se_X8_odds dL_law_426 rfl rfl (Nat.le_of_ble_eq_true rfl) ?_
  show lq g l b L xs 429 [(0, .ref b), (1, .ref (mad g 0)), (2, .ref (mad g 82)), (3, .int (nI i))] [.int r] h
  refine lq_aload_n (n := 430) (q := 2) dL_law_429 rfl rfl rfl ?_
  refine lq_aload_n (n := 431) (q := 0) dL_law_430 rfl rfl rfl ?_
  refine lq_iload_n (n := 432) (q := 3) dL_law_431 rfl rfl rfl ?_
  refine lq_iconst (n := 433) (v := 1) dL_law_432 rfl (by decide) ?_
  refine lq_iadd (n := 434) dL_law_433 rfl ?_
  refine lq_sld (n := 435) (j := i + 1) (nI_pk i 1) (by omega) hL dL_law_434 rfl ?_
  refine lq_aload_n (n := 436) (q := 0) dL_law_435 rfl rfl rfl ?_
  refine lq_iload_n (n := 437) (q := 3) dL_law_436 rfl rfl rfl ?_
  refine lq_iconst (n := 438) (v := 2) dL_law_437 rfl (by decide) ?_
  refine lq_iadd (n := 439) dL_law_438 rfl ?_
  refine lq_sld (n := 440) (j := i + 2) (nI_pk i 2) (by omega) hL dL_law_439 rfl ?_
  refine lq_cutJ (pc' := 448) (lv' := [(0, .ref b), (1, .ref (mad g 0)), (2, .ref (mad g 82)), (3, .int (nI i))]) (st' := [.int (if (xs (i + 2)) = 0 then 0 else 1), .int (xs (i + 1)), .ref (mad g 82), .int r]) (fun J => ?_) ?_
  · refine lq_if_eq (n := 443) (t := 447) dL_law_440 rfl (by decide) (fun c => ?_) (fun c => ?_)
    · refine lq_iconst (n := 448) (v := 0) dL_law_447 rfl (by decide) ?_
      exact lq_topeq (if_pos c).symm J
    · refine lq_iconst (n := 444) (v := 1) dL_law_443 rfl (by decide) ?_
      refine lq_goto (n := 448) dL_law_444 (by decide) ?_
      exact lq_topeq (if_neg c).symm J
  refine lq_callV (n := 451) (a := 82) (As := [.int (xs (i + 1)), .int (if (xs (i + 2)) = 0 then 0 else 1)]) cl9 (mkm hg (by decide) (by rfl)) (t_X9_odds hg N (xs (i + 1)) (if (xs (i + 2)) = 0 then 0 else 1) h) hm (by decide) ok_X9_odds rfl rfl lk_L_64 im_X9_odds se_X9_odds dL_law_448 rfl rfl (Nat.le_of_ble_eq_true rfl) ?_
  show lq g l b L xs 451 [(0, .ref b), (1, .ref (mad g 0)), (2, .ref (mad g 82)), (3, .int (nI i))] [.int r, .int r] h2
  refine lq_same (t := 1115) dL_law_451 (by decide) rfl ?_
  exact K
set_option maxRecDepth 20000 in
set_option maxHeartbeats 4000000 in
theorem lc_12 {g : mG} {l : Launch} (hg : mnn g = 101) {b L : Nat} {xs : Nat → Int32} (N i : Nat) (hi : i + 5 ≤ L) (hL : L ≤ 2560) (h h2 : mH) (r : Int32) (hx : x_X8_ask N (xs (i + 1)) h = some r) (hm : x_X9_ask N (xs (i + 1)) h = some (r, h2)) (K : lq g l b L xs 1115 [(0, .ref b), (1, .ref (mad g 0)), (2, .ref (mad g 82)), (3, .int (nI i))] [] h2) : lq g l b L xs 456 [(0, .ref b), (1, .ref (mad g 0)), (2, .ref (mad g 82)), (3, .int (nI i))] [] h := by
  refine lq_aload_n (n := 457) (q := 1) dL_law_456 rfl rfl rfl ?_
  refine lq_aload_n (n := 458) (q := 0) dL_law_457 rfl rfl rfl ?_
  refine lq_iload_n (n := 459) (q := 3) dL_law_458 rfl rfl rfl ?_
  refine lq_iconst (n := 460) (v := 1) dL_law_459 rfl (by decide) ?_
  refine lq_iadd (n := 461) dL_law_460 rfl ?_
  refine lq_sld (n := 462) (j := i + 1) (nI_pk i 1) (by omega) hL dL_law_461 rfl ?_
  refine lq_callV (n := 465) (a := 0) (As := [.int (xs (i + 1))]) cl8 (mkl (Or.inr hg) (by decide) (by rfl)) (t_X8_ask (Or.inr hg) N (xs (i + 1)) h) hx (by decide) ok_X8_ask rfl rfl lk_L_65 im_X8_ask se_X8_ask dL_law_462 rfl rfl (Nat.le_of_ble_eq_true rfl) ?_
  show lq g l b L xs 465 [(0, .ref b), (1, .ref (mad g 0)), (2, .ref (mad g 82)), (3, .int (nI i))] [.int r] h
  refine lq_aload_n (n := 466) (q := 2) dL_law_465 rfl rfl rfl ?_
  refine lq_aload_n (n := 467) (q := 0) dL_law_466 rfl rfl rfl ?_
  refine lq_iload_n (n := 468) (q := 3) dL_law_467 rfl rfl rfl ?_
  refine lq_iconst (n := 469) (v := 1) dL_law_468 rfl (by decide) ?_
  refine lq_iadd (n := 470) dL_law_469 rfl ?_
  refine lq_sld (n := 471) (j := i + 1) (nI_pk i 1) (by omega) hL dL_law_470 rfl ?_
  refine lq_callV (n := 474) (a := 82) (As := [.int (xs (i + 1))]) cl9 (mkm hg (by decide) (by rfl)) (t_X9_ask hg N (xs (i + 1)) h) hm (by decide) ok_X9_ask rfl rfl lk_L_68 im_X9_ask se_X9_ask dL_law_471 rfl rfl (Nat.le_of_ble_eq_true rfl) ?_
  show lq g l b L xs 474 [(0, .ref b), (1, .ref (mad g 0)), (2, .ref (mad g 82)), (3, .int (nI i))] [.int r, .int r] h2
  refine lq_same (t := 1115) dL_law_474 (by decide) rfl ?_
  exact K
set_option maxRecDepth 20000 in
set_option maxHeartbeats 4000000 in
theorem lc_13 {g : mG} {l : Launch} (hg : mnn g = 101) {b L : Nat} {xs : Nat → Int32} (N i : Nat) (hi : i + 5 ≤ L) (hL : L ≤ 2560) (h h2 : mH) (r : Int32) (hx : x_X8_plane N h = some r) (hm : x_X9_plane N h = some (r, h2)) (K : lq g l b L xs 1115 [(0, .ref b), (1, .ref (mad g 0)), (2, .ref (mad g 82)), (3, .int (nI i))] [] h2) : lq g l b L xs 479 [(0, .ref b), (1, .ref (mad g 0)), (2, .ref (mad g 82)), (3, .int (nI i))] [] h := by
  refine lq_aload_n (n := 480) (q := 1) dL_law_479 rfl rfl rfl ?_
  refine lq_callV (n := 483) (a := 0) (As := []) cl8 (mkl (Or.inr hg) (by decide) (by rfl)) (t_X8_plane (Or.inr hg) N h) hx (by decide) ok_X8_plane rfl rfl lk_L_69 im_X8_plane se_X8_plane dL_law_480 rfl rfl (Nat.le_of_ble_eq_true rfl) ?_
  show lq g l b L xs 483 [(0, .ref b), (1, .ref (mad g 0)), (2, .ref (mad g 82)), (3, .int (nI i))] [.int r] h
  refine lq_aload_n (n := 484) (q := 2) dL_law_483 rfl rfl rfl ?_
  refine lq_callV (n := 487) (a := 82) (As := []) cl9 (mkm hg (by decide) (by rfl)) (t_X9_plane hg N h) hm (by decide) ok_X9_plane rfl rfl lk_L_72 im_X9_plane se_X9_plane dL_law_484 rfl rfl (Nat.le_of_ble_eq_true rfl) ?_
  show lq g l b L xs 487 [(0, .ref b), (1, .ref (mad g 0)), (2, .ref (mad g 82)), (3, .int (nI i))] [.int r, .int r] h2
  refine lq_same (t := 1115) dL_law_487 (by decide) rfl ?_
  exact K
set_option maxRecDepth 20000 in
set_option maxHeartbeats 4000000 in
theorem lc_14 {g : mG} {l : Launch} (hg : mnn g = 101) {b L : Nat} {xs : Nat → Int32} (N i : Nat) (hi : i + 5 ≤ L) (hL : L ≤ 2560) (h h2 : mH) (h1 : mH) (r : Int32) (hx : x_X8_go (xs (i + 1)) h = some (r, h1)) (hm : x_X9_go N (xs (i + 1)) h1 = some (r, h2)) (K : lq g l b L xs 1115 [(0, .ref b), (1, .ref (mad g 0)), (2, .ref (mad g 82)), (3, .int (nI i))] [] h2) : lq g l b L xs 492 [(0, .ref b), (1, .ref (mad g 0)), (2, .ref (mad g 82)), (3, .int (nI i))] [] h := by
  refine lq_aload_n (n := 493) (q := 1) dL_law_492 rfl rfl rfl ?_
  refine lq_aload_n (n := 494) (q := 0) dL_law_493 rfl rfl rfl ?_
  refine lq_iload_n (n := 495) (q := 3) dL_law_494 rfl rfl rfl ?_
  refine lq_iconst (n := 496) (v := 1) dL_law_495 rfl (by decide) ?_
  refine lq_iadd (n := 497) dL_law_496 rfl ?_
  refine lq_sld (n := 498) (j := i + 1) (nI_pk i 1) (by omega) hL dL_law_497 rfl ?_
  refine lq_callV (n := 501) (a := 0) (As := [.int (xs (i + 1))]) cl8 (mkl (Or.inr hg) (by decide) (by rfl)) (t_X8_go (Or.inr hg) (xs (i + 1)) h) hx (by decide) ok_X8_go rfl rfl lk_L_73 im_X8_go se_X8_go dL_law_498 rfl rfl (Nat.le_of_ble_eq_true rfl) ?_
  show lq g l b L xs 501 [(0, .ref b), (1, .ref (mad g 0)), (2, .ref (mad g 82)), (3, .int (nI i))] [.int r] h1
  refine lq_aload_n (n := 502) (q := 2) dL_law_501 rfl rfl rfl ?_
  refine lq_aload_n (n := 503) (q := 0) dL_law_502 rfl rfl rfl ?_
  refine lq_iload_n (n := 504) (q := 3) dL_law_503 rfl rfl rfl ?_
  refine lq_iconst (n := 505) (v := 1) dL_law_504 rfl (by decide) ?_
  refine lq_iadd (n := 506) dL_law_505 rfl ?_
  refine lq_sld (n := 507) (j := i + 1) (nI_pk i 1) (by omega) hL dL_law_506 rfl ?_
  refine lq_callV (n := 510) (a := 82) (As := [.int (xs (i + 1))]) cl9 (mkm hg (by decide) (by rfl)) (t_X9_go hg N (xs (i + 1)) h1) hm (by decide) ok_X9_go rfl rfl lk_L_76 im_X9_go se_X9_go dL_law_507 rfl rfl (Nat.le_of_ble_eq_true rfl) ?_
  show lq g l b L xs 510 [(0, .ref b), (1, .ref (mad g 0)), (2, .ref (mad g 82)), (3, .int (nI i))] [.int r, .int r] h2
  refine lq_same (t := 1115) dL_law_510 (by decide) rfl ?_
  exact K
set_option maxRecDepth 20000 in
set_option maxHeartbeats 4000000 in
theorem lc_15 {g : mG} {l : Launch} (hg : mnn g = 101) {b L : Nat} {xs : Nat → Int32} (N i : Nat) (hi : i + 5 ≤ L) (hL : L ≤ 2560) (h h2 : mH) (h1 : mH) (r : Int32) (hx : x_X8_swap N (xs (i + 1)) (xs (i + 2)) (xs (i + 3)) (xs (i + 4)) h = some (r, h1)) (hm : x_X9_swap N (xs (i + 1)) (xs (i + 2)) (xs (i + 3)) (xs (i + 4)) h1 = some (r, h2)) (K : lq g l b L xs 1115 [(0, .ref b), (1, .ref (mad g 0)), (2, .ref (mad g 82)), (3, .int (nI i))] [] h2) : lq g l b L xs 515 [(0, .ref b), (1, .ref (mad g 0)), (2, .ref (mad g 82)), (3, .int (nI i))] [] h := by
  refine lq_aload_n (n := 516) (q := 1) dL_law_515 rfl rfl rfl ?_
  refine lq_aload_n (n := 517) (q := 0) dL_law_516 rfl rfl rfl ?_
  refine lq_iload_n (n := 518) (q := 3) dL_law_517 rfl rfl rfl ?_
  refine lq_iconst (n := 519) (v := 1) dL_law_518 rfl (by decide) ?_
  refine lq_iadd (n := 520) dL_law_519 rfl ?_
  refine lq_sld (n := 521) (j := i + 1) (nI_pk i 1) (by omega) hL dL_law_520 rfl ?_
  refine lq_aload_n (n := 522) (q := 0) dL_law_521 rfl rfl rfl ?_
  refine lq_iload_n (n := 523) (q := 3) dL_law_522 rfl rfl rfl ?_
  refine lq_iconst (n := 524) (v := 2) dL_law_523 rfl (by decide) ?_
  refine lq_iadd (n := 525) dL_law_524 rfl ?_
  refine lq_sld (n := 526) (j := i + 2) (nI_pk i 2) (by omega) hL dL_law_525 rfl ?_
  refine lq_aload_n (n := 527) (q := 0) dL_law_526 rfl rfl rfl ?_
  refine lq_iload_n (n := 528) (q := 3) dL_law_527 rfl rfl rfl ?_
  refine lq_iconst (n := 529) (v := 3) dL_law_528 rfl (by decide) ?_
  refine lq_iadd (n := 530) dL_law_529 rfl ?_
  refine lq_sld (n := 531) (j := i + 3) (nI_pk i 3) (by omega) hL dL_law_530 rfl ?_
  refine lq_aload_n (n := 532) (q := 0) dL_law_531 rfl rfl rfl ?_
  refine lq_iload_n (n := 533) (q := 3) dL_law_532 rfl rfl rfl ?_
  refine lq_iconst (n := 534) (v := 4) dL_law_533 rfl (by decide) ?_
  refine lq_iadd (n := 535) dL_law_534 rfl ?_
  refine lq_sld (n := 536) (j := i + 4) (nI_pk i 4) (by omega) hL dL_law_535 rfl ?_
  refine lq_callV (n := 539) (a := 0) (As := [.int (xs (i + 1)), .int (xs (i + 2)), .int (xs (i + 3)), .int (xs (i + 4))]) cl8 (mkl (Or.inr hg) (by decide) (by rfl)) (t_X8_swap (Or.inr hg) N (xs (i + 1)) (xs (i + 2)) (xs (i + 3)) (xs (i + 4)) h) hx (by decide) ok_X8_swap rfl rfl lk_L_77 im_X8_swap se_X8_swap dL_law_536 rfl rfl (Nat.le_of_ble_eq_true rfl) ?_
  show lq g l b L xs 539 [(0, .ref b), (1, .ref (mad g 0)), (2, .ref (mad g 82)), (3, .int (nI i))] [.int r] h1
  refine lq_aload_n (n := 540) (q := 2) dL_law_539 rfl rfl rfl ?_
  refine lq_aload_n (n := 541) (q := 0) dL_law_540 rfl rfl rfl ?_
  refine lq_iload_n (n := 542) (q := 3) dL_law_541 rfl rfl rfl ?_
  refine lq_iconst (n := 543) (v := 1) dL_law_542 rfl (by decide) ?_
  refine lq_iadd (n := 544) dL_law_543 rfl ?_
  refine lq_sld (n := 545) (j := i + 1) (nI_pk i 1) (by omega) hL dL_law_544 rfl ?_
  refine lq_aload_n (n := 546) (q := 0) dL_law_545 rfl rfl rfl ?_
  refine lq_iload_n (n := 547) (q := 3) dL_law_546 rfl rfl rfl ?_
  refine lq_iconst (n := 548) (v := 2) dL_law_547 rfl (by decide) ?_
  refine lq_iadd (n := 549) dL_law_548 rfl ?_
  refine lq_sld (n := 550) (j := i + 2) (nI_pk i 2) (by omega) hL dL_law_549 rfl ?_
  refine lq_aload_n (n := 551) (q := 0) dL_law_550 rfl rfl rfl ?_
  refine lq_iload_n (n := 552) (q := 3) dL_law_551 rfl rfl rfl ?_
  refine lq_iconst (n := 553) (v := 3) dL_law_552 rfl (by decide) ?_
  refine lq_iadd (n := 554) dL_law_553 rfl ?_
  refine lq_sld (n := 555) (j := i + 3) (nI_pk i 3) (by omega) hL dL_law_554 rfl ?_
  refine lq_aload_n (n := 556) (q := 0) dL_law_555 rfl rfl rfl ?_
  refine lq_iload_n (n := 557) (q := 3) dL_law_556 rfl rfl rfl ?_
  refine lq_iconst (n := 558) (v := 4) dL_law_557 rfl (by decide) ?_
  refine lq_iadd (n := 559) dL_law_558 rfl ?_
  refine lq_sld (n := 560) (j := i + 4) (nI_pk i 4) (by omega) hL dL_law_559 rfl ?_
  refine lq_callV (n := 563) (a := 82) (As := [.int (xs (i + 1)), .int (xs (i + 2)), .int (xs (i + 3)), .int (xs (i + 4))]) cl9 (mkm hg (by decide) (by rfl)) (t_X9_swap hg N (xs (i + 1)) (xs (i + 2)) (xs (i + 3)) (xs (i + 4)) h1) hm (by decide) ok_X9_swap rfl rfl lk_L_81 im_X9_swap se_X9_swap dL_law_560 rfl rfl (Nat.le_of_ble_eq_true rfl) ?_
  show lq g l b L xs 563 [(0, .ref b), (1, .ref (mad g 0)), (2, .ref (mad g 82)), (3, .int (nI i))] [.int r, .int r] h2
  refine lq_same (t := 1115) dL_law_563 (by decide) rfl ?_
  exact K
set_option maxRecDepth 20000 in
set_option maxHeartbeats 4000000 in
theorem lc_16 {g : mG} {l : Launch} (hg : mnn g = 101) {b L : Nat} {xs : Nat → Int32} (N i : Nat) (hi : i + 5 ≤ L) (hL : L ≤ 2560) (h h2 : mH) (h1 : mH) (r : Int32) (hx : x_X8_setTotal N (xs (i + 1)) (xs (i + 2)) (xs (i + 3)) h = some (r, h1)) (hm : x_X9_setTotal N (xs (i + 1)) (xs (i + 2)) (xs (i + 3)) h1 = some (r, h2)) (K : lq g l b L xs 1115 [(0, .ref b), (1, .ref (mad g 0)), (2, .ref (mad g 82)), (3, .int (nI i))] [] h2) : lq g l b L xs 568 [(0, .ref b), (1, .ref (mad g 0)), (2, .ref (mad g 82)), (3, .int (nI i))] [] h := by
  refine lq_aload_n (n := 569) (q := 1) dL_law_568 rfl rfl rfl ?_
  refine lq_aload_n (n := 570) (q := 0) dL_law_569 rfl rfl rfl ?_
  refine lq_iload_n (n := 571) (q := 3) dL_law_570 rfl rfl rfl ?_
  refine lq_iconst (n := 572) (v := 1) dL_law_571 rfl (by decide) ?_
  refine lq_iadd (n := 573) dL_law_572 rfl ?_
  refine lq_sld (n := 574) (j := i + 1) (nI_pk i 1) (by omega) hL dL_law_573 rfl ?_
  refine lq_aload_n (n := 575) (q := 0) dL_law_574 rfl rfl rfl ?_
  refine lq_iload_n (n := 576) (q := 3) dL_law_575 rfl rfl rfl ?_
  refine lq_iconst (n := 577) (v := 2) dL_law_576 rfl (by decide) ?_
  refine lq_iadd (n := 578) dL_law_577 rfl ?_
  refine lq_sld (n := 579) (j := i + 2) (nI_pk i 2) (by omega) hL dL_law_578 rfl ?_
  refine lq_aload_n (n := 580) (q := 0) dL_law_579 rfl rfl rfl ?_
  refine lq_iload_n (n := 581) (q := 3) dL_law_580 rfl rfl rfl ?_
  refine lq_iconst (n := 582) (v := 3) dL_law_581 rfl (by decide) ?_
  refine lq_iadd (n := 583) dL_law_582 rfl ?_
  refine lq_sld (n := 584) (j := i + 3) (nI_pk i 3) (by omega) hL dL_law_583 rfl ?_
  refine lq_callV (n := 587) (a := 0) (As := [.int (xs (i + 1)), .int (xs (i + 2)), .int (xs (i + 3))]) cl8 (mkl (Or.inr hg) (by decide) (by rfl)) (t_X8_setTotal (Or.inr hg) N (xs (i + 1)) (xs (i + 2)) (xs (i + 3)) h) hx (by decide) ok_X8_setTotal rfl rfl lk_L_82 im_X8_setTotal se_X8_setTotal dL_law_584 rfl rfl (Nat.le_of_ble_eq_true rfl) ?_
  show lq g l b L xs 587 [(0, .ref b), (1, .ref (mad g 0)), (2, .ref (mad g 82)), (3, .int (nI i))] [.int r] h1
  refine lq_aload_n (n := 588) (q := 2) dL_law_587 rfl rfl rfl ?_
  refine lq_aload_n (n := 589) (q := 0) dL_law_588 rfl rfl rfl ?_
  refine lq_iload_n (n := 590) (q := 3) dL_law_589 rfl rfl rfl ?_
  refine lq_iconst (n := 591) (v := 1) dL_law_590 rfl (by decide) ?_
  refine lq_iadd (n := 592) dL_law_591 rfl ?_
  refine lq_sld (n := 593) (j := i + 1) (nI_pk i 1) (by omega) hL dL_law_592 rfl ?_
  refine lq_aload_n (n := 594) (q := 0) dL_law_593 rfl rfl rfl ?_
  refine lq_iload_n (n := 595) (q := 3) dL_law_594 rfl rfl rfl ?_
  refine lq_iconst (n := 596) (v := 2) dL_law_595 rfl (by decide) ?_
  refine lq_iadd (n := 597) dL_law_596 rfl ?_
  refine lq_sld (n := 598) (j := i + 2) (nI_pk i 2) (by omega) hL dL_law_597 rfl ?_
  refine lq_aload_n (n := 599) (q := 0) dL_law_598 rfl rfl rfl ?_
  refine lq_iload_n (n := 600) (q := 3) dL_law_599 rfl rfl rfl ?_
  refine lq_iconst (n := 601) (v := 3) dL_law_600 rfl (by decide) ?_
  refine lq_iadd (n := 602) dL_law_601 rfl ?_
  refine lq_sld (n := 603) (j := i + 3) (nI_pk i 3) (by omega) hL dL_law_602 rfl ?_
  refine lq_callV (n := 606) (a := 82) (As := [.int (xs (i + 1)), .int (xs (i + 2)), .int (xs (i + 3))]) cl9 (mkm hg (by decide) (by rfl)) (t_X9_setTotal hg N (xs (i + 1)) (xs (i + 2)) (xs (i + 3)) h1) hm (by decide) ok_X9_setTotal rfl rfl lk_L_86 im_X9_setTotal se_X9_setTotal dL_law_603 rfl rfl (Nat.le_of_ble_eq_true rfl) ?_
  show lq g l b L xs 606 [(0, .ref b), (1, .ref (mad g 0)), (2, .ref (mad g 82)), (3, .int (nI i))] [.int r, .int r] h2
  refine lq_same (t := 1115) dL_law_606 (by decide) rfl ?_
  exact K
set_option maxRecDepth 20000 in
set_option maxHeartbeats 4000000 in
theorem lc_17 {g : mG} {l : Launch} (hg : mnn g = 101) {b L : Nat} {xs : Nat → Int32} (N i : Nat) (hi : i + 5 ≤ L) (hL : L ≤ 2560) (h h2 : mH) (h1 : mH) (r : Int32) (hx : x_X8_setPin N (xs (i + 1)) (xs (i + 2)) h = some (r, h1)) (hm : x_X9_setPin N (xs (i + 1)) (xs (i + 2)) h1 = some (r, h2)) (K : lq g l b L xs 1115 [(0, .ref b), (1, .ref (mad g 0)), (2, .ref (mad g 82)), (3, .int (nI i))] [] h2) : lq g l b L xs 611 [(0, .ref b), (1, .ref (mad g 0)), (2, .ref (mad g 82)), (3, .int (nI i))] [] h := by
  refine lq_aload_n (n := 612) (q := 1) dL_law_611 rfl rfl rfl ?_
  refine lq_aload_n (n := 613) (q := 0) dL_law_612 rfl rfl rfl ?_
  refine lq_iload_n (n := 614) (q := 3) dL_law_613 rfl rfl rfl ?_
  refine lq_iconst (n := 615) (v := 1) dL_law_614 rfl (by decide) ?_
  refine lq_iadd (n := 616) dL_law_615 rfl ?_
  refine lq_sld (n := 617) (j := i + 1) (nI_pk i 1) (by omega) hL dL_law_616 rfl ?_
  refine lq_aload_n (n := 618) (q := 0) dL_law_617 rfl rfl rfl ?_
  refine lq_iload_n (n := 619) (q := 3) dL_law_618 rfl rfl rfl ?_
  refine lq_iconst (n := 620) (v := 2) dL_law_619 rfl (by decide) ?_
  refine lq_iadd (n := 621) dL_law_620 rfl ?_
  refine lq_sld (n := 622) (j := i + 2) (nI_pk i 2) (by omega) hL dL_law_621 rfl ?_
  refine lq_callV (n := 625) (a := 0) (As := [.int (xs (i + 1)), .int (xs (i + 2))]) cl8 (mkl (Or.inr hg) (by decide) (by rfl)) (t_X8_setPin (Or.inr hg) N (xs (i + 1)) (xs (i + 2)) h) hx (by decide) ok_X8_setPin rfl rfl lk_L_87 im_X8_setPin se_X8_setPin dL_law_622 rfl rfl (Nat.le_of_ble_eq_true rfl) ?_
  show lq g l b L xs 625 [(0, .ref b), (1, .ref (mad g 0)), (2, .ref (mad g 82)), (3, .int (nI i))] [.int r] h1
  refine lq_aload_n (n := 626) (q := 2) dL_law_625 rfl rfl rfl ?_
  refine lq_aload_n (n := 627) (q := 0) dL_law_626 rfl rfl rfl ?_
  refine lq_iload_n (n := 628) (q := 3) dL_law_627 rfl rfl rfl ?_
  refine lq_iconst (n := 629) (v := 1) dL_law_628 rfl (by decide) ?_
  refine lq_iadd (n := 630) dL_law_629 rfl ?_
  refine lq_sld (n := 631) (j := i + 1) (nI_pk i 1) (by omega) hL dL_law_630 rfl ?_
  refine lq_aload_n (n := 632) (q := 0) dL_law_631 rfl rfl rfl ?_
  refine lq_iload_n (n := 633) (q := 3) dL_law_632 rfl rfl rfl ?_
  refine lq_iconst (n := 634) (v := 2) dL_law_633 rfl (by decide) ?_
  refine lq_iadd (n := 635) dL_law_634 rfl ?_
  refine lq_sld (n := 636) (j := i + 2) (nI_pk i 2) (by omega) hL dL_law_635 rfl ?_
  refine lq_callV (n := 639) (a := 82) (As := [.int (xs (i + 1)), .int (xs (i + 2))]) cl9 (mkm hg (by decide) (by rfl)) (t_X9_setPin hg N (xs (i + 1)) (xs (i + 2)) h1) hm (by decide) ok_X9_setPin rfl rfl lk_L_90 im_X9_setPin se_X9_setPin dL_law_636 rfl rfl (Nat.le_of_ble_eq_true rfl) ?_
  show lq g l b L xs 639 [(0, .ref b), (1, .ref (mad g 0)), (2, .ref (mad g 82)), (3, .int (nI i))] [.int r, .int r] h2
  refine lq_same (t := 1115) dL_law_639 (by decide) rfl ?_
  exact K
set_option maxRecDepth 20000 in
set_option maxHeartbeats 4000000 in
theorem lc_18 {g : mG} {l : Launch} (hg : mnn g = 101) {b L : Nat} {xs : Nat → Int32} (N i : Nat) (hi : i + 5 ≤ L) (hL : L ≤ 2560) (h h2 : mH) (h1 : mH) (r : Int32) (hx : x_X8_undo N h = some (r, h1)) (hm : x_X9_undo N h1 = some (r, h2)) (K : lq g l b L xs 1115 [(0, .ref b), (1, .ref (mad g 0)), (2, .ref (mad g 82)), (3, .int (nI i))] [] h2) : lq g l b L xs 644 [(0, .ref b), (1, .ref (mad g 0)), (2, .ref (mad g 82)), (3, .int (nI i))] [] h := by
  refine lq_aload_n (n := 645) (q := 1) dL_law_644 rfl rfl rfl ?_
  refine lq_callV (n := 648) (a := 0) (As := []) cl8 (mkl (Or.inr hg) (by decide) (by rfl)) (t_X8_undo (Or.inr hg) N h) hx (by decide) ok_X8_undo rfl rfl lk_L_91 im_X8_undo se_X8_undo dL_law_645 rfl rfl (Nat.le_of_ble_eq_true rfl) ?_
  show lq g l b L xs 648 [(0, .ref b), (1, .ref (mad g 0)), (2, .ref (mad g 82)), (3, .int (nI i))] [.int r] h1
  refine lq_aload_n (n := 649) (q := 2) dL_law_648 rfl rfl rfl ?_
  refine lq_callV (n := 652) (a := 82) (As := []) cl9 (mkm hg (by decide) (by rfl)) (t_X9_undo hg N h1) hm (by decide) ok_X9_undo rfl rfl lk_L_94 im_X9_undo se_X9_undo dL_law_649 rfl rfl (Nat.le_of_ble_eq_true rfl) ?_
  show lq g l b L xs 652 [(0, .ref b), (1, .ref (mad g 0)), (2, .ref (mad g 82)), (3, .int (nI i))] [.int r, .int r] h2
  refine lq_same (t := 1115) dL_law_652 (by decide) rfl ?_
  exact K
set_option maxRecDepth 20000 in
set_option maxHeartbeats 4000000 in
theorem lc_19 {g : mG} {l : Launch} (hg : mnn g = 101) {b L : Nat} {xs : Nat → Int32} (N i : Nat) (hi : i + 5 ≤ L) (hL : L ≤ 2560) (h h2 : mH) (r : Int32) (hx : x_X8_switches N (xs (i + 1)) h = some r) (hm : x_X9_switches N (xs (i + 1)) h = some (r, h2)) (K : lq g l b L xs 1115 [(0, .ref b), (1, .ref (mad g 0)), (2, .ref (mad g 82)), (3, .int (nI i))] [] h2) : lq g l b L xs 657 [(0, .ref b), (1, .ref (mad g 0)), (2, .ref (mad g 82)), (3, .int (nI i))] [] h := by
  refine lq_aload_n (n := 658) (q := 1) dL_law_657 rfl rfl rfl ?_
  refine lq_aload_n (n := 659) (q := 0) dL_law_658 rfl rfl rfl ?_
  refine lq_iload_n (n := 660) (q := 3) dL_law_659 rfl rfl rfl ?_
  refine lq_iconst (n := 661) (v := 1) dL_law_660 rfl (by decide) ?_
  refine lq_iadd (n := 662) dL_law_661 rfl ?_
  refine lq_sld (n := 663) (j := i + 1) (nI_pk i 1) (by omega) hL dL_law_662 rfl ?_
  refine lq_callV (n := 666) (a := 0) (As := [.int (xs (i + 1))]) cl8 (mkl (Or.inr hg) (by decide) (by rfl)) (t_X8_switches (Or.inr hg) N (xs (i + 1)) h) hx (by decide) ok_X8_switches rfl rfl lk_L_95 im_X8_switches se_X8_switches dL_law_663 rfl rfl (Nat.le_of_ble_eq_true rfl) ?_
  show lq g l b L xs 666 [(0, .ref b), (1, .ref (mad g 0)), (2, .ref (mad g 82)), (3, .int (nI i))] [.int r] h
  refine lq_aload_n (n := 667) (q := 2) dL_law_666 rfl rfl rfl ?_
  refine lq_aload_n (n := 668) (q := 0) dL_law_667 rfl rfl rfl ?_
  refine lq_iload_n (n := 669) (q := 3) dL_law_668 rfl rfl rfl ?_
  refine lq_iconst (n := 670) (v := 1) dL_law_669 rfl (by decide) ?_
  refine lq_iadd (n := 671) dL_law_670 rfl ?_
  refine lq_sld (n := 672) (j := i + 1) (nI_pk i 1) (by omega) hL dL_law_671 rfl ?_
  refine lq_callV (n := 675) (a := 82) (As := [.int (xs (i + 1))]) cl9 (mkm hg (by decide) (by rfl)) (t_X9_switches hg N (xs (i + 1)) h) hm (by decide) ok_X9_switches rfl rfl lk_L_98 im_X9_switches se_X9_switches dL_law_672 rfl rfl (Nat.le_of_ble_eq_true rfl) ?_
  show lq g l b L xs 675 [(0, .ref b), (1, .ref (mad g 0)), (2, .ref (mad g 82)), (3, .int (nI i))] [.int r, .int r] h2
  refine lq_same (t := 1115) dL_law_675 (by decide) rfl ?_
  exact K
set_option maxRecDepth 20000 in
set_option maxHeartbeats 4000000 in
theorem lc_20 {g : mG} {l : Launch} (hg : mnn g = 101) {b L : Nat} {xs : Nat → Int32} (N i : Nat) (hi : i + 5 ≤ L) (hL : L ≤ 2560) (h h2 : mH) (h1 : mH) (r : Int32) (hx : x_X8_reached N h = some (r, h1)) (hm : x_X9_reached N h1 = some (r, h2)) (K : lq g l b L xs 1115 [(0, .ref b), (1, .ref (mad g 0)), (2, .ref (mad g 82)), (3, .int (nI i))] [] h2) : lq g l b L xs 680 [(0, .ref b), (1, .ref (mad g 0)), (2, .ref (mad g 82)), (3, .int (nI i))] [] h := by
  refine lq_aload_n (n := 681) (q := 1) dL_law_680 rfl rfl rfl ?_
  refine lq_callV (n := 684) (a := 0) (As := []) cl8 (mkl (Or.inr hg) (by decide) (by rfl)) (t_X8_reached (Or.inr hg) N h) hx (by decide) ok_X8_reached rfl rfl lk_L_99 im_X8_reached se_X8_reached dL_law_681 rfl rfl (Nat.le_of_ble_eq_true rfl) ?_
  show lq g l b L xs 684 [(0, .ref b), (1, .ref (mad g 0)), (2, .ref (mad g 82)), (3, .int (nI i))] [.int r] h1
  refine lq_aload_n (n := 685) (q := 2) dL_law_684 rfl rfl rfl ?_
  refine lq_callV (n := 688) (a := 82) (As := []) cl9 (mkm hg (by decide) (by rfl)) (t_X9_reached hg N h1) hm (by decide) ok_X9_reached rfl rfl lk_L_102 im_X9_reached se_X9_reached dL_law_685 rfl rfl (Nat.le_of_ble_eq_true rfl) ?_
  show lq g l b L xs 688 [(0, .ref b), (1, .ref (mad g 0)), (2, .ref (mad g 82)), (3, .int (nI i))] [.int r, .int r] h2
  refine lq_same (t := 1115) dL_law_688 (by decide) rfl ?_
  exact K
set_option maxRecDepth 20000 in
set_option maxHeartbeats 4000000 in
theorem lc_21 {g : mG} {l : Launch} (hg : mnn g = 101) {b L : Nat} {xs : Nat → Int32} (N i : Nat) (hi : i + 5 ≤ L) (hL : L ≤ 2560) (h h2 : mH) (h1 : mH) (r : Int32) (hx : x_X8_apart N (xs (i + 1)) h = some (r, h1)) (hm : x_X9_apart N (xs (i + 1)) h1 = some (r, h2)) (K : lq g l b L xs 1115 [(0, .ref b), (1, .ref (mad g 0)), (2, .ref (mad g 82)), (3, .int (nI i))] [] h2) : lq g l b L xs 693 [(0, .ref b), (1, .ref (mad g 0)), (2, .ref (mad g 82)), (3, .int (nI i))] [] h := by
  refine lq_aload_n (n := 694) (q := 1) dL_law_693 rfl rfl rfl ?_
  refine lq_aload_n (n := 695) (q := 0) dL_law_694 rfl rfl rfl ?_
  refine lq_iload_n (n := 696) (q := 3) dL_law_695 rfl rfl rfl ?_
  refine lq_iconst (n := 697) (v := 1) dL_law_696 rfl (by decide) ?_
  refine lq_iadd (n := 698) dL_law_697 rfl ?_
  refine lq_sld (n := 699) (j := i + 1) (nI_pk i 1) (by omega) hL dL_law_698 rfl ?_
  refine lq_callV (n := 702) (a := 0) (As := [.int (xs (i + 1))]) cl8 (mkl (Or.inr hg) (by decide) (by rfl)) (t_X8_apart (Or.inr hg) N (xs (i + 1)) h) hx (by decide) ok_X8_apart rfl rfl lk_L_103 im_X8_apart se_X8_apart dL_law_699 rfl rfl (Nat.le_of_ble_eq_true rfl) ?_
  show lq g l b L xs 702 [(0, .ref b), (1, .ref (mad g 0)), (2, .ref (mad g 82)), (3, .int (nI i))] [.int r] h1
  refine lq_aload_n (n := 703) (q := 2) dL_law_702 rfl rfl rfl ?_
  refine lq_aload_n (n := 704) (q := 0) dL_law_703 rfl rfl rfl ?_
  refine lq_iload_n (n := 705) (q := 3) dL_law_704 rfl rfl rfl ?_
  refine lq_iconst (n := 706) (v := 1) dL_law_705 rfl (by decide) ?_
  refine lq_iadd (n := 707) dL_law_706 rfl ?_
  refine lq_sld (n := 708) (j := i + 1) (nI_pk i 1) (by omega) hL dL_law_707 rfl ?_
  refine lq_callV (n := 711) (a := 82) (As := [.int (xs (i + 1))]) cl9 (mkm hg (by decide) (by rfl)) (t_X9_apart hg N (xs (i + 1)) h1) hm (by decide) ok_X9_apart rfl rfl lk_L_106 im_X9_apart se_X9_apart dL_law_708 rfl rfl (Nat.le_of_ble_eq_true rfl) ?_
  show lq g l b L xs 711 [(0, .ref b), (1, .ref (mad g 0)), (2, .ref (mad g 82)), (3, .int (nI i))] [.int r, .int r] h2
  refine lq_same (t := 1115) dL_law_711 (by decide) rfl ?_
  exact K
set_option maxRecDepth 20000 in
set_option maxHeartbeats 4000000 in
theorem lc_22 {g : mG} {l : Launch} (hg : mnn g = 101) {b L : Nat} {xs : Nat → Int32} (N i : Nat) (hi : i + 5 ≤ L) (hL : L ≤ 2560) (h h2 : mH) (r : Int32) (hx : x_X8_key N (xs (i + 1)) h = some r) (hm : x_X9_key N (xs (i + 1)) h = some (r, h2)) (K : lq g l b L xs 1115 [(0, .ref b), (1, .ref (mad g 0)), (2, .ref (mad g 82)), (3, .int (nI i))] [] h2) : lq g l b L xs 716 [(0, .ref b), (1, .ref (mad g 0)), (2, .ref (mad g 82)), (3, .int (nI i))] [] h := by
  refine lq_aload_n (n := 717) (q := 1) dL_law_716 rfl rfl rfl ?_
  refine lq_aload_n (n := 718) (q := 0) dL_law_717 rfl rfl rfl ?_
  refine lq_iload_n (n := 719) (q := 3) dL_law_718 rfl rfl rfl ?_
  refine lq_iconst (n := 720) (v := 1) dL_law_719 rfl (by decide) ?_
  refine lq_iadd (n := 721) dL_law_720 rfl ?_
  refine lq_sld (n := 722) (j := i + 1) (nI_pk i 1) (by omega) hL dL_law_721 rfl ?_
  refine lq_callV (n := 725) (a := 0) (As := [.int (xs (i + 1))]) cl8 (mkl (Or.inr hg) (by decide) (by rfl)) (t_X8_key (Or.inr hg) N (xs (i + 1)) h) hx (by decide) ok_X8_key rfl rfl lk_L_107 im_X8_key se_X8_key dL_law_722 rfl rfl (Nat.le_of_ble_eq_true rfl) ?_
  show lq g l b L xs 725 [(0, .ref b), (1, .ref (mad g 0)), (2, .ref (mad g 82)), (3, .int (nI i))] [.int r] h
  refine lq_aload_n (n := 726) (q := 2) dL_law_725 rfl rfl rfl ?_
  refine lq_aload_n (n := 727) (q := 0) dL_law_726 rfl rfl rfl ?_
  refine lq_iload_n (n := 728) (q := 3) dL_law_727 rfl rfl rfl ?_
  refine lq_iconst (n := 729) (v := 1) dL_law_728 rfl (by decide) ?_
  refine lq_iadd (n := 730) dL_law_729 rfl ?_
  refine lq_sld (n := 731) (j := i + 1) (nI_pk i 1) (by omega) hL dL_law_730 rfl ?_
  refine lq_callV (n := 734) (a := 82) (As := [.int (xs (i + 1))]) cl9 (mkm hg (by decide) (by rfl)) (t_X9_key hg N (xs (i + 1)) h) hm (by decide) ok_X9_key rfl rfl lk_L_110 im_X9_key se_X9_key dL_law_731 rfl rfl (Nat.le_of_ble_eq_true rfl) ?_
  show lq g l b L xs 734 [(0, .ref b), (1, .ref (mad g 0)), (2, .ref (mad g 82)), (3, .int (nI i))] [.int r, .int r] h2
  refine lq_same (t := 1115) dL_law_734 (by decide) rfl ?_
  exact K
set_option maxRecDepth 20000 in
set_option maxHeartbeats 4000000 in
theorem lc_23 {g : mG} {l : Launch} (hg : mnn g = 101) {b L : Nat} {xs : Nat → Int32} (N i : Nat) (hi : i + 5 ≤ L) (hL : L ≤ 2560) (h h2 : mH) (h1 : mH) (r : Int32) (hx : x_X8_judge N (xs (i + 1)) ((xlshl (xs (i + 2)).toInt64 32) ||| ((xs (i + 3)).toInt64 &&& (4294967295 : Int64))) h = some (r, h1)) (hm : x_X9_judge N (xs (i + 1)) ((xlshl (xs (i + 2)).toInt64 32) ||| ((xs (i + 3)).toInt64 &&& (4294967295 : Int64))) h1 = some (r, h2)) (K : lq g l b L xs 1115 [(0, .ref b), (1, .ref (mad g 0)), (2, .ref (mad g 82)), (3, .int (nI i))] [] h2) : lq g l b L xs 739 [(0, .ref b), (1, .ref (mad g 0)), (2, .ref (mad g 82)), (3, .int (nI i))] [] h := by
  refine lq_aload_n (n := 740) (q := 1) dL_law_739 rfl rfl rfl ?_
  refine lq_aload_n (n := 741) (q := 0) dL_law_740 rfl rfl rfl ?_
  refine lq_iload_n (n := 742) (q := 3) dL_law_741 rfl rfl rfl ?_
  refine lq_iconst (n := 743) (v := 1) dL_law_742 rfl (by decide) ?_
  refine lq_iadd (n := 744) dL_law_743 rfl ?_
  refine lq_sld (n := 745) (j := i + 1) (nI_pk i 1) (by omega) hL dL_law_744 rfl ?_
  refine lq_aload_n (n := 746) (q := 0) dL_law_745 rfl rfl rfl ?_
  refine lq_iload_n (n := 747) (q := 3) dL_law_746 rfl rfl rfl ?_
  refine lq_iconst (n := 748) (v := 2) dL_law_747 rfl (by decide) ?_
  refine lq_iadd (n := 749) dL_law_748 rfl ?_
  refine lq_sld (n := 750) (j := i + 2) (nI_pk i 2) (by omega) hL dL_law_749 rfl ?_
  refine lq_i2l (n := 751) dL_law_750 rfl ?_
  refine lq_bipush (n := 753) (v := 32) dL_law_751 rfl (by decide) ?_
  refine lq_lshl (n := 754) dL_law_753 rfl ?_
  refine lq_aload_n (n := 755) (q := 0) dL_law_754 rfl rfl rfl ?_
  refine lq_iload_n (n := 756) (q := 3) dL_law_755 rfl rfl rfl ?_
  refine lq_iconst (n := 757) (v := 3) dL_law_756 rfl (by decide) ?_
  refine lq_iadd (n := 758) dL_law_757 rfl ?_
  refine lq_sld (n := 759) (j := i + 3) (nI_pk i 3) (by omega) hL dL_law_758 rfl ?_
  refine lq_i2l (n := 760) dL_law_759 rfl ?_
  refine lq_ldc2_w (n := 763) dL_law_760 rfl kl_L_111 ?_
  refine lq_land (n := 764) dL_law_763 rfl ?_
  refine lq_lor (n := 765) dL_law_764 rfl ?_
  refine lq_callV (n := 768) (a := 0) (As := [.int (xs (i + 1)), .long ((xlshl (xs (i + 2)).toInt64 32) ||| ((xs (i + 3)).toInt64 &&& (4294967295 : Int64)))]) cl8 (mkl (Or.inr hg) (by decide) (by rfl)) (t_X8_judge (Or.inr hg) N (xs (i + 1)) ((xlshl (xs (i + 2)).toInt64 32) ||| ((xs (i + 3)).toInt64 &&& (4294967295 : Int64))) h) hx (by decide) ok_X8_judge rfl rfl lk_L_113 im_X8_judge se_X8_judge dL_law_765 rfl rfl (Nat.le_of_ble_eq_true rfl) ?_
  show lq g l b L xs 768 [(0, .ref b), (1, .ref (mad g 0)), (2, .ref (mad g 82)), (3, .int (nI i))] [.int r] h1
  refine lq_aload_n (n := 769) (q := 2) dL_law_768 rfl rfl rfl ?_
  refine lq_aload_n (n := 770) (q := 0) dL_law_769 rfl rfl rfl ?_
  refine lq_iload_n (n := 771) (q := 3) dL_law_770 rfl rfl rfl ?_
  refine lq_iconst (n := 772) (v := 1) dL_law_771 rfl (by decide) ?_
  refine lq_iadd (n := 773) dL_law_772 rfl ?_
  refine lq_sld (n := 774) (j := i + 1) (nI_pk i 1) (by omega) hL dL_law_773 rfl ?_
  refine lq_aload_n (n := 775) (q := 0) dL_law_774 rfl rfl rfl ?_
  refine lq_iload_n (n := 776) (q := 3) dL_law_775 rfl rfl rfl ?_
  refine lq_iconst (n := 777) (v := 2) dL_law_776 rfl (by decide) ?_
  refine lq_iadd (n := 778) dL_law_777 rfl ?_
  refine lq_sld (n := 779) (j := i + 2) (nI_pk i 2) (by omega) hL dL_law_778 rfl ?_
  refine lq_i2l (n := 780) dL_law_779 rfl ?_
  refine lq_bipush (n := 782) (v := 32) dL_law_780 rfl (by decide) ?_
  refine lq_lshl (n := 783) dL_law_782 rfl ?_
  refine lq_aload_n (n := 784) (q := 0) dL_law_783 rfl rfl rfl ?_
  refine lq_iload_n (n := 785) (q := 3) dL_law_784 rfl rfl rfl ?_
  refine lq_iconst (n := 786) (v := 3) dL_law_785 rfl (by decide) ?_
  refine lq_iadd (n := 787) dL_law_786 rfl ?_
  refine lq_sld (n := 788) (j := i + 3) (nI_pk i 3) (by omega) hL dL_law_787 rfl ?_
  refine lq_i2l (n := 789) dL_law_788 rfl ?_
  refine lq_ldc2_w (n := 792) dL_law_789 rfl kl_L_111 ?_
  refine lq_land (n := 793) dL_law_792 rfl ?_
  refine lq_lor (n := 794) dL_law_793 rfl ?_
  refine lq_callV (n := 797) (a := 82) (As := [.int (xs (i + 1)), .long ((xlshl (xs (i + 2)).toInt64 32) ||| ((xs (i + 3)).toInt64 &&& (4294967295 : Int64)))]) cl9 (mkm hg (by decide) (by rfl)) (t_X9_judge hg N (xs (i + 1)) ((xlshl (xs (i + 2)).toInt64 32) ||| ((xs (i + 3)).toInt64 &&& (4294967295 : Int64))) h1) hm (by decide) ok_X9_judge rfl rfl lk_L_117 im_X9_judge se_X9_judge dL_law_794 rfl rfl (Nat.le_of_ble_eq_true rfl) ?_
  show lq g l b L xs 797 [(0, .ref b), (1, .ref (mad g 0)), (2, .ref (mad g 82)), (3, .int (nI i))] [.int r, .int r] h2
  refine lq_same (t := 1115) dL_law_797 (by decide) rfl ?_
  exact K
set_option maxRecDepth 20000 in
set_option maxHeartbeats 4000000 in
theorem lc_24 {g : mG} {l : Launch} (hg : mnn g = 101) {b L : Nat} {xs : Nat → Int32} (N i : Nat) (hi : i + 5 ≤ L) (hL : L ≤ 2560) (h h2 : mH) (h1 : mH) (r : Int32) (hx : x_X8_see (xs (i + 1)) (xs (i + 2)) h = some (r, h1)) (hm : x_X9_see (xs (i + 1)) (xs (i + 2)) h1 = some (r, h2)) (K : lq g l b L xs 1115 [(0, .ref b), (1, .ref (mad g 0)), (2, .ref (mad g 82)), (3, .int (nI i))] [] h2) : lq g l b L xs 802 [(0, .ref b), (1, .ref (mad g 0)), (2, .ref (mad g 82)), (3, .int (nI i))] [] h := by
  refine lq_aload_n (n := 803) (q := 1) dL_law_802 rfl rfl rfl ?_
  refine lq_aload_n (n := 804) (q := 0) dL_law_803 rfl rfl rfl ?_
  refine lq_iload_n (n := 805) (q := 3) dL_law_804 rfl rfl rfl ?_
  refine lq_iconst (n := 806) (v := 1) dL_law_805 rfl (by decide) ?_
  refine lq_iadd (n := 807) dL_law_806 rfl ?_
  refine lq_sld (n := 808) (j := i + 1) (nI_pk i 1) (by omega) hL dL_law_807 rfl ?_
  refine lq_aload_n (n := 809) (q := 0) dL_law_808 rfl rfl rfl ?_
  refine lq_iload_n (n := 810) (q := 3) dL_law_809 rfl rfl rfl ?_
  refine lq_iconst (n := 811) (v := 2) dL_law_810 rfl (by decide) ?_
  refine lq_iadd (n := 812) dL_law_811 rfl ?_
  refine lq_sld (n := 813) (j := i + 2) (nI_pk i 2) (by omega) hL dL_law_812 rfl ?_
  refine lq_callV (n := 816) (a := 0) (As := [.int (xs (i + 1)), .int (xs (i + 2))]) cl8 (mkl (Or.inr hg) (by decide) (by rfl)) (t_X8_see (Or.inr hg) (xs (i + 1)) (xs (i + 2)) h) hx (by decide) ok_X8_see rfl rfl lk_L_118 im_X8_see se_X8_see dL_law_813 rfl rfl (Nat.le_of_ble_eq_true rfl) ?_
  show lq g l b L xs 816 [(0, .ref b), (1, .ref (mad g 0)), (2, .ref (mad g 82)), (3, .int (nI i))] [.int r] h1
  refine lq_aload_n (n := 817) (q := 2) dL_law_816 rfl rfl rfl ?_
  refine lq_aload_n (n := 818) (q := 0) dL_law_817 rfl rfl rfl ?_
  refine lq_iload_n (n := 819) (q := 3) dL_law_818 rfl rfl rfl ?_
  refine lq_iconst (n := 820) (v := 1) dL_law_819 rfl (by decide) ?_
  refine lq_iadd (n := 821) dL_law_820 rfl ?_
  refine lq_sld (n := 822) (j := i + 1) (nI_pk i 1) (by omega) hL dL_law_821 rfl ?_
  refine lq_aload_n (n := 823) (q := 0) dL_law_822 rfl rfl rfl ?_
  refine lq_iload_n (n := 824) (q := 3) dL_law_823 rfl rfl rfl ?_
  refine lq_iconst (n := 825) (v := 2) dL_law_824 rfl (by decide) ?_
  refine lq_iadd (n := 826) dL_law_825 rfl ?_
  refine lq_sld (n := 827) (j := i + 2) (nI_pk i 2) (by omega) hL dL_law_826 rfl ?_
  refine lq_callV (n := 830) (a := 82) (As := [.int (xs (i + 1)), .int (xs (i + 2))]) cl9 (mkm hg (by decide) (by rfl)) (t_X9_see hg (xs (i + 1)) (xs (i + 2)) h1) hm (by decide) ok_X9_see rfl rfl lk_L_121 im_X9_see se_X9_see dL_law_827 rfl rfl (Nat.le_of_ble_eq_true rfl) ?_
  show lq g l b L xs 830 [(0, .ref b), (1, .ref (mad g 0)), (2, .ref (mad g 82)), (3, .int (nI i))] [.int r, .int r] h2
  refine lq_same (t := 1115) dL_law_830 (by decide) rfl ?_
  exact K
set_option maxRecDepth 20000 in
set_option maxHeartbeats 4000000 in
theorem lc_25 {g : mG} {l : Launch} (hg : mnn g = 101) {b L : Nat} {xs : Nat → Int32} (N i : Nat) (hi : i + 5 ≤ L) (hL : L ≤ 2560) (h h2 : mH) (h1 : mH) (r : Int32) (hx : x_X8_unsee h = some (r, h1)) (hm : x_X9_unsee h1 = some (r, h2)) (K : lq g l b L xs 1115 [(0, .ref b), (1, .ref (mad g 0)), (2, .ref (mad g 82)), (3, .int (nI i))] [] h2) : lq g l b L xs 835 [(0, .ref b), (1, .ref (mad g 0)), (2, .ref (mad g 82)), (3, .int (nI i))] [] h := by
  refine lq_aload_n (n := 836) (q := 1) dL_law_835 rfl rfl rfl ?_
  refine lq_callV (n := 839) (a := 0) (As := []) cl8 (mkl (Or.inr hg) (by decide) (by rfl)) (t_X8_unsee (Or.inr hg) h) hx (by decide) ok_X8_unsee rfl rfl lk_L_122 im_X8_unsee se_X8_unsee dL_law_836 rfl rfl (Nat.le_of_ble_eq_true rfl) ?_
  show lq g l b L xs 839 [(0, .ref b), (1, .ref (mad g 0)), (2, .ref (mad g 82)), (3, .int (nI i))] [.int r] h1
  refine lq_aload_n (n := 840) (q := 2) dL_law_839 rfl rfl rfl ?_
  refine lq_callV (n := 843) (a := 82) (As := []) cl9 (mkm hg (by decide) (by rfl)) (t_X9_unsee hg h1) hm (by decide) ok_X9_unsee rfl rfl lk_L_125 im_X9_unsee se_X9_unsee dL_law_840 rfl rfl (Nat.le_of_ble_eq_true rfl) ?_
  show lq g l b L xs 843 [(0, .ref b), (1, .ref (mad g 0)), (2, .ref (mad g 82)), (3, .int (nI i))] [.int r, .int r] h2
  refine lq_same (t := 1115) dL_law_843 (by decide) rfl ?_
  exact K
set_option maxRecDepth 20000 in
set_option maxHeartbeats 4000000 in
theorem lc_26 {g : mG} {l : Launch} (hg : mnn g = 101) {b L : Nat} {xs : Nat → Int32} (N i : Nat) (hi : i + 5 ≤ L) (hL : L ≤ 2560) (h h2 : mH) (r : Int32) (hx : x_X8_which N (xs (i + 1)) h = some r) (hm : x_X9_which N (xs (i + 1)) h = some (r, h2)) (K : lq g l b L xs 1115 [(0, .ref b), (1, .ref (mad g 0)), (2, .ref (mad g 82)), (3, .int (nI i))] [] h2) : lq g l b L xs 848 [(0, .ref b), (1, .ref (mad g 0)), (2, .ref (mad g 82)), (3, .int (nI i))] [] h := by
  refine lq_aload_n (n := 849) (q := 1) dL_law_848 rfl rfl rfl ?_
  refine lq_aload_n (n := 850) (q := 0) dL_law_849 rfl rfl rfl ?_
  refine lq_iload_n (n := 851) (q := 3) dL_law_850 rfl rfl rfl ?_
  refine lq_iconst (n := 852) (v := 1) dL_law_851 rfl (by decide) ?_
  refine lq_iadd (n := 853) dL_law_852 rfl ?_
  refine lq_sld (n := 854) (j := i + 1) (nI_pk i 1) (by omega) hL dL_law_853 rfl ?_
  refine lq_callV (n := 857) (a := 0) (As := [.int (xs (i + 1))]) cl8 (mkl (Or.inr hg) (by decide) (by rfl)) (t_X8_which (Or.inr hg) N (xs (i + 1)) h) hx (by decide) ok_X8_which rfl rfl lk_L_126 im_X8_which se_X8_which dL_law_854 rfl rfl (Nat.le_of_ble_eq_true rfl) ?_
  show lq g l b L xs 857 [(0, .ref b), (1, .ref (mad g 0)), (2, .ref (mad g 82)), (3, .int (nI i))] [.int r] h
  refine lq_aload_n (n := 858) (q := 2) dL_law_857 rfl rfl rfl ?_
  refine lq_aload_n (n := 859) (q := 0) dL_law_858 rfl rfl rfl ?_
  refine lq_iload_n (n := 860) (q := 3) dL_law_859 rfl rfl rfl ?_
  refine lq_iconst (n := 861) (v := 1) dL_law_860 rfl (by decide) ?_
  refine lq_iadd (n := 862) dL_law_861 rfl ?_
  refine lq_sld (n := 863) (j := i + 1) (nI_pk i 1) (by omega) hL dL_law_862 rfl ?_
  refine lq_callV (n := 866) (a := 82) (As := [.int (xs (i + 1))]) cl9 (mkm hg (by decide) (by rfl)) (t_X9_which hg N (xs (i + 1)) h) hm (by decide) ok_X9_which rfl rfl lk_L_129 im_X9_which se_X9_which dL_law_863 rfl rfl (Nat.le_of_ble_eq_true rfl) ?_
  show lq g l b L xs 866 [(0, .ref b), (1, .ref (mad g 0)), (2, .ref (mad g 82)), (3, .int (nI i))] [.int r, .int r] h2
  refine lq_same (t := 1115) dL_law_866 (by decide) rfl ?_
  exact K
set_option maxRecDepth 20000 in
set_option maxHeartbeats 4000000 in
theorem lc_27 {g : mG} {l : Launch} (hg : mnn g = 101) {b L : Nat} {xs : Nat → Int32} (N i : Nat) (hi : i + 5 ≤ L) (hL : L ≤ 2560) (h h2 : mH) (h1 : mH) (r : Int32) (hx : x_X8_share N (xs (i + 1)) (if (xs (i + 2)) = 0 then 0 else 1) h = some (r, h1)) (hm : x_X9_share N (xs (i + 1)) (if (xs (i + 2)) = 0 then 0 else 1) h1 = some (r, h2)) (K : lq g l b L xs 1115 [(0, .ref b), (1, .ref (mad g 0)), (2, .ref (mad g 82)), (3, .int (nI i))] [] h2) : lq g l b L xs 871 [(0, .ref b), (1, .ref (mad g 0)), (2, .ref (mad g 82)), (3, .int (nI i))] [] h := by
  refine lq_aload_n (n := 872) (q := 1) dL_law_871 rfl rfl rfl ?_
  refine lq_aload_n (n := 873) (q := 0) dL_law_872 rfl rfl rfl ?_
  refine lq_iload_n (n := 874) (q := 3) dL_law_873 rfl rfl rfl ?_
  refine lq_iconst (n := 875) (v := 1) dL_law_874 rfl (by decide) ?_
  refine lq_iadd (n := 876) dL_law_875 rfl ?_
  refine lq_sld (n := 877) (j := i + 1) (nI_pk i 1) (by omega) hL dL_law_876 rfl ?_
  refine lq_aload_n (n := 878) (q := 0) dL_law_877 rfl rfl rfl ?_
  refine lq_iload_n (n := 879) (q := 3) dL_law_878 rfl rfl rfl ?_
  refine lq_iconst (n := 880) (v := 2) dL_law_879 rfl (by decide) ?_
  refine lq_iadd (n := 881) dL_law_880 rfl ?_
  refine lq_sld (n := 882) (j := i + 2) (nI_pk i 2) (by omega) hL dL_law_881 rfl ?_
  refine lq_cutJ (pc' := 890) (lv' := [(0, .ref b), (1, .ref (mad g 0)), (2, .ref (mad g 82)), (3, .int (nI i))]) (st' := [.int (if (xs (i + 2)) = 0 then 0 else 1), .int (xs (i + 1)), .ref (mad g 0)]) (fun J => ?_) ?_
  · refine lq_if_eq (n := 885) (t := 889) dL_law_882 rfl (by decide) (fun c => ?_) (fun c => ?_)
    · refine lq_iconst (n := 890) (v := 0) dL_law_889 rfl (by decide) ?_
      exact lq_topeq (if_pos c).symm J
    · refine lq_iconst (n := 886) (v := 1) dL_law_885 rfl (by decide) ?_
      refine lq_goto (n := 890) dL_law_886 (by decide) ?_
      exact lq_topeq (if_neg c).symm J
  refine lq_callV (n := 893) (a := 0) (As := [.int (xs (i + 1)), .int (if (xs (i + 2)) = 0 then 0 else 1)]) cl8 (mkl (Or.inr hg) (by decide) (by rfl)) (t_X8_share (Or.inr hg) N (xs (i + 1)) (if (xs (i + 2)) = 0 then 0 else 1) h) hx (by decide) ok_X8_share rfl rfl lk_L_130 im_X8_share se_X8_share dL_law_890 rfl rfl (Nat.le_of_ble_eq_true rfl) ?_
  show lq g l b L xs 893 [(0, .ref b), (1, .ref (mad g 0)), (2, .ref (mad g 82)), (3, .int (nI i))] [.int r] h1
  refine lq_aload_n (n := 894) (q := 2) dL_law_893 rfl rfl rfl ?_
  refine lq_aload_n (n := 895) (q := 0) dL_law_894 rfl rfl rfl ?_
  refine lq_iload_n (n := 896) (q := 3) dL_law_895 rfl rfl rfl ?_
  refine lq_iconst (n := 897) (v := 1) dL_law_896 rfl (by decide) ?_
  refine lq_iadd (n := 898) dL_law_897 rfl ?_
  refine lq_sld (n := 899) (j := i + 1) (nI_pk i 1) (by omega) hL dL_law_898 rfl ?_
  refine lq_aload_n (n := 900) (q := 0) dL_law_899 rfl rfl rfl ?_
  refine lq_iload_n (n := 901) (q := 3) dL_law_900 rfl rfl rfl ?_
  refine lq_iconst (n := 902) (v := 2) dL_law_901 rfl (by decide) ?_
  refine lq_iadd (n := 903) dL_law_902 rfl ?_
  refine lq_sld (n := 904) (j := i + 2) (nI_pk i 2) (by omega) hL dL_law_903 rfl ?_
  refine lq_cutJ (pc' := 912) (lv' := [(0, .ref b), (1, .ref (mad g 0)), (2, .ref (mad g 82)), (3, .int (nI i))]) (st' := [.int (if (xs (i + 2)) = 0 then 0 else 1), .int (xs (i + 1)), .ref (mad g 82), .int r]) (fun J => ?_) ?_
  · refine lq_if_eq (n := 907) (t := 911) dL_law_904 rfl (by decide) (fun c => ?_) (fun c => ?_)
    · refine lq_iconst (n := 912) (v := 0) dL_law_911 rfl (by decide) ?_
      exact lq_topeq (if_pos c).symm J
    · refine lq_iconst (n := 908) (v := 1) dL_law_907 rfl (by decide) ?_
      refine lq_goto (n := 912) dL_law_908 (by decide) ?_
      exact lq_topeq (if_neg c).symm J
  refine lq_callV (n := 915) (a := 82) (As := [.int (xs (i + 1)), .int (if (xs (i + 2)) = 0 then 0 else 1)]) cl9 (mkm hg (by decide) (by rfl)) (t_X9_share hg N (xs (i + 1)) (if (xs (i + 2)) = 0 then 0 else 1) h1) hm (by decide) ok_X9_share rfl rfl lk_L_133 im_X9_share se_X9_share dL_law_912 rfl rfl (Nat.le_of_ble_eq_true rfl) ?_
  show lq g l b L xs 915 [(0, .ref b), (1, .ref (mad g 0)), (2, .ref (mad g 82)), (3, .int (nI i))] [.int r, .int r] h2
  refine lq_same (t := 1115) dL_law_915 (by decide) rfl ?_
  exact K
set_option maxRecDepth 20000 in
set_option maxHeartbeats 4000000 in
theorem lc_28 {g : mG} {l : Launch} (hg : mnn g = 101) {b L : Nat} {xs : Nat → Int32} (N i : Nat) (hi : i + 5 ≤ L) (hL : L ≤ 2560) (h h2 : mH) (h1 : mH) (r : Int32) (hx : x_X8_loose N (xs (i + 1)) (if (xs (i + 2)) = 0 then 0 else 1) h = some (r, h1)) (hm : x_X9_loose N (xs (i + 1)) (if (xs (i + 2)) = 0 then 0 else 1) h1 = some (r, h2)) (K : lq g l b L xs 1115 [(0, .ref b), (1, .ref (mad g 0)), (2, .ref (mad g 82)), (3, .int (nI i))] [] h2) : lq g l b L xs 920 [(0, .ref b), (1, .ref (mad g 0)), (2, .ref (mad g 82)), (3, .int (nI i))] [] h := by
  refine lq_aload_n (n := 921) (q := 1) dL_law_920 rfl rfl rfl ?_
  refine lq_aload_n (n := 922) (q := 0) dL_law_921 rfl rfl rfl ?_
  refine lq_iload_n (n := 923) (q := 3) dL_law_922 rfl rfl rfl ?_
  refine lq_iconst (n := 924) (v := 1) dL_law_923 rfl (by decide) ?_
  refine lq_iadd (n := 925) dL_law_924 rfl ?_
  refine lq_sld (n := 926) (j := i + 1) (nI_pk i 1) (by omega) hL dL_law_925 rfl ?_
  refine lq_aload_n (n := 927) (q := 0) dL_law_926 rfl rfl rfl ?_
  refine lq_iload_n (n := 928) (q := 3) dL_law_927 rfl rfl rfl ?_
  refine lq_iconst (n := 929) (v := 2) dL_law_928 rfl (by decide) ?_
  refine lq_iadd (n := 930) dL_law_929 rfl ?_
  refine lq_sld (n := 931) (j := i + 2) (nI_pk i 2) (by omega) hL dL_law_930 rfl ?_
  refine lq_cutJ (pc' := 939) (lv' := [(0, .ref b), (1, .ref (mad g 0)), (2, .ref (mad g 82)), (3, .int (nI i))]) (st' := [.int (if (xs (i + 2)) = 0 then 0 else 1), .int (xs (i + 1)), .ref (mad g 0)]) (fun J => ?_) ?_
  · refine lq_if_eq (n := 934) (t := 938) dL_law_931 rfl (by decide) (fun c => ?_) (fun c => ?_)
    · refine lq_iconst (n := 939) (v := 0) dL_law_938 rfl (by decide) ?_
      exact lq_topeq (if_pos c).symm J
    · refine lq_iconst (n := 935) (v := 1) dL_law_934 rfl (by decide) ?_
      refine lq_goto (n := 939) dL_law_935 (by decide) ?_
      exact lq_topeq (if_neg c).symm J
  refine lq_callV (n := 942) (a := 0) (As := [.int (xs (i + 1)), .int (if (xs (i + 2)) = 0 then 0 else 1)]) cl8 (mkl (Or.inr hg) (by decide) (by rfl)) (t_X8_loose (Or.inr hg) N (xs (i + 1)) (if (xs (i + 2)) = 0 then 0 else 1) h) hx (by decide) ok_X8_loose rfl rfl lk_L_134 im_X8_loose se_X8_loose dL_law_939 rfl rfl (Nat.le_of_ble_eq_true rfl) ?_
  show lq g l b L xs 942 [(0, .ref b), (1, .ref (mad g 0)), (2, .ref (mad g 82)), (3, .int (nI i))] [.int r] h1
  refine lq_aload_n (n := 943) (q := 2) dL_law_942 rfl rfl rfl ?_
  refine lq_aload_n (n := 944) (q := 0) dL_law_943 rfl rfl rfl ?_
  refine lq_iload_n (n := 945) (q := 3) dL_law_944 rfl rfl rfl ?_
  refine lq_iconst (n := 946) (v := 1) dL_law_945 rfl (by decide) ?_
  refine lq_iadd (n := 947) dL_law_946 rfl ?_
  refine lq_sld (n := 948) (j := i + 1) (nI_pk i 1) (by omega) hL dL_law_947 rfl ?_
  refine lq_aload_n (n := 949) (q := 0) dL_law_948 rfl rfl rfl ?_
  refine lq_iload_n (n := 950) (q := 3) dL_law_949 rfl rfl rfl ?_
  refine lq_iconst (n := 951) (v := 2) dL_law_950 rfl (by decide) ?_
  refine lq_iadd (n := 952) dL_law_951 rfl ?_
  refine lq_sld (n := 953) (j := i + 2) (nI_pk i 2) (by omega) hL dL_law_952 rfl ?_
  refine lq_cutJ (pc' := 961) (lv' := [(0, .ref b), (1, .ref (mad g 0)), (2, .ref (mad g 82)), (3, .int (nI i))]) (st' := [.int (if (xs (i + 2)) = 0 then 0 else 1), .int (xs (i + 1)), .ref (mad g 82), .int r]) (fun J => ?_) ?_
  · refine lq_if_eq (n := 956) (t := 960) dL_law_953 rfl (by decide) (fun c => ?_) (fun c => ?_)
    · refine lq_iconst (n := 961) (v := 0) dL_law_960 rfl (by decide) ?_
      exact lq_topeq (if_pos c).symm J
    · refine lq_iconst (n := 957) (v := 1) dL_law_956 rfl (by decide) ?_
      refine lq_goto (n := 961) dL_law_957 (by decide) ?_
      exact lq_topeq (if_neg c).symm J
  refine lq_callV (n := 964) (a := 82) (As := [.int (xs (i + 1)), .int (if (xs (i + 2)) = 0 then 0 else 1)]) cl9 (mkm hg (by decide) (by rfl)) (t_X9_loose hg N (xs (i + 1)) (if (xs (i + 2)) = 0 then 0 else 1) h1) hm (by decide) ok_X9_loose rfl rfl lk_L_137 im_X9_loose se_X9_loose dL_law_961 rfl rfl (Nat.le_of_ble_eq_true rfl) ?_
  show lq g l b L xs 964 [(0, .ref b), (1, .ref (mad g 0)), (2, .ref (mad g 82)), (3, .int (nI i))] [.int r, .int r] h2
  refine lq_same (t := 1115) dL_law_964 (by decide) rfl ?_
  exact K
set_option maxRecDepth 20000 in
set_option maxHeartbeats 4000000 in
theorem lc_29 {g : mG} {l : Launch} (hg : mnn g = 101) {b L : Nat} {xs : Nat → Int32} (N i : Nat) (hi : i + 5 ≤ L) (hL : L ≤ 2560) (h h2 : mH) (h1 : mH) (r : Int64) (hx : x_X8_seed ((xlshl (xs (i + 1)).toInt64 32) ||| ((xs (i + 2)).toInt64 &&& (4294967295 : Int64))) h = some (r, h1)) (hm : x_X9_seed ((xlshl (xs (i + 1)).toInt64 32) ||| ((xs (i + 2)).toInt64 &&& (4294967295 : Int64))) h1 = some (r, h2)) (K : lq g l b L xs 1115 [(0, .ref b), (1, .ref (mad g 0)), (2, .ref (mad g 82)), (3, .int (nI i))] [] h2) : lq g l b L xs 969 [(0, .ref b), (1, .ref (mad g 0)), (2, .ref (mad g 82)), (3, .int (nI i))] [] h := by
  refine lq_aload_n (n := 970) (q := 1) dL_law_969 rfl rfl rfl ?_
  refine lq_aload_n (n := 971) (q := 0) dL_law_970 rfl rfl rfl ?_
  refine lq_iload_n (n := 972) (q := 3) dL_law_971 rfl rfl rfl ?_
  refine lq_iconst (n := 973) (v := 1) dL_law_972 rfl (by decide) ?_
  refine lq_iadd (n := 974) dL_law_973 rfl ?_
  refine lq_sld (n := 975) (j := i + 1) (nI_pk i 1) (by omega) hL dL_law_974 rfl ?_
  refine lq_i2l (n := 976) dL_law_975 rfl ?_
  refine lq_bipush (n := 978) (v := 32) dL_law_976 rfl (by decide) ?_
  refine lq_lshl (n := 979) dL_law_978 rfl ?_
  refine lq_aload_n (n := 980) (q := 0) dL_law_979 rfl rfl rfl ?_
  refine lq_iload_n (n := 981) (q := 3) dL_law_980 rfl rfl rfl ?_
  refine lq_iconst (n := 982) (v := 2) dL_law_981 rfl (by decide) ?_
  refine lq_iadd (n := 983) dL_law_982 rfl ?_
  refine lq_sld (n := 984) (j := i + 2) (nI_pk i 2) (by omega) hL dL_law_983 rfl ?_
  refine lq_i2l (n := 985) dL_law_984 rfl ?_
  refine lq_ldc2_w (n := 988) dL_law_985 rfl kl_L_111 ?_
  refine lq_land (n := 989) dL_law_988 rfl ?_
  refine lq_lor (n := 990) dL_law_989 rfl ?_
  refine lq_callV (n := 993) (a := 0) (As := [.long ((xlshl (xs (i + 1)).toInt64 32) ||| ((xs (i + 2)).toInt64 &&& (4294967295 : Int64)))]) cl8 (mkl (Or.inr hg) (by decide) (by rfl)) (t_X8_seed (Or.inr hg) ((xlshl (xs (i + 1)).toInt64 32) ||| ((xs (i + 2)).toInt64 &&& (4294967295 : Int64))) h) hx (by decide) ok_X8_seed rfl rfl lk_L_138 im_X8_seed se_X8_seed dL_law_990 rfl rfl (Nat.le_of_ble_eq_true rfl) ?_
  show lq g l b L xs 993 [(0, .ref b), (1, .ref (mad g 0)), (2, .ref (mad g 82)), (3, .int (nI i))] [.long r] h1
  refine lq_aload_n (n := 994) (q := 2) dL_law_993 rfl rfl rfl ?_
  refine lq_aload_n (n := 995) (q := 0) dL_law_994 rfl rfl rfl ?_
  refine lq_iload_n (n := 996) (q := 3) dL_law_995 rfl rfl rfl ?_
  refine lq_iconst (n := 997) (v := 1) dL_law_996 rfl (by decide) ?_
  refine lq_iadd (n := 998) dL_law_997 rfl ?_
  refine lq_sld (n := 999) (j := i + 1) (nI_pk i 1) (by omega) hL dL_law_998 rfl ?_
  refine lq_i2l (n := 1000) dL_law_999 rfl ?_
  refine lq_bipush (n := 1002) (v := 32) dL_law_1000 rfl (by decide) ?_
  refine lq_lshl (n := 1003) dL_law_1002 rfl ?_
  refine lq_aload_n (n := 1004) (q := 0) dL_law_1003 rfl rfl rfl ?_
  refine lq_iload_n (n := 1005) (q := 3) dL_law_1004 rfl rfl rfl ?_
  refine lq_iconst (n := 1006) (v := 2) dL_law_1005 rfl (by decide) ?_
  refine lq_iadd (n := 1007) dL_law_1006 rfl ?_
  refine lq_sld (n := 1008) (j := i + 2) (nI_pk i 2) (by omega) hL dL_law_1007 rfl ?_
  refine lq_i2l (n := 1009) dL_law_1008 rfl ?_
  refine lq_ldc2_w (n := 1012) dL_law_1009 rfl kl_L_111 ?_
  refine lq_land (n := 1013) dL_law_1012 rfl ?_
  refine lq_lor (n := 1014) dL_law_1013 rfl ?_
  refine lq_callV (n := 1017) (a := 82) (As := [.long ((xlshl (xs (i + 1)).toInt64 32) ||| ((xs (i + 2)).toInt64 &&& (4294967295 : Int64)))]) cl9 (mkm hg (by decide) (by rfl)) (t_X9_seed hg ((xlshl (xs (i + 1)).toInt64 32) ||| ((xs (i + 2)).toInt64 &&& (4294967295 : Int64))) h1) hm (by decide) ok_X9_seed rfl rfl lk_L_142 im_X9_seed se_X9_seed dL_law_1014 rfl rfl (Nat.le_of_ble_eq_true rfl) ?_
  show lq g l b L xs 1017 [(0, .ref b), (1, .ref (mad g 0)), (2, .ref (mad g 82)), (3, .int (nI i))] [.long r, .long r] h2
  refine lq_lcmp (n := 1018) dL_law_1017 rfl rfl ?_
  refine lq_ifeq0 (t := 1115) dL_law_1018 (by decide) ?_
  exact K
set_option maxRecDepth 20000 in
set_option maxHeartbeats 4000000 in
theorem lc_30 {g : mG} {l : Launch} (hg : mnn g = 101) {b L : Nat} {xs : Nat → Int32} (N i : Nat) (hi : i + 5 ≤ L) (hL : L ≤ 2560) (h h2 : mH) (h1 : mH) (r : Int32) (hx : x_X8_drawn N (xs (i + 1)) h = some (r, h1)) (hm : x_X9_drawn N (xs (i + 1)) h1 = some (r, h2)) (K : lq g l b L xs 1115 [(0, .ref b), (1, .ref (mad g 0)), (2, .ref (mad g 82)), (3, .int (nI i))] [] h2) : lq g l b L xs 1023 [(0, .ref b), (1, .ref (mad g 0)), (2, .ref (mad g 82)), (3, .int (nI i))] [] h := by
  refine lq_aload_n (n := 1024) (q := 1) dL_law_1023 rfl rfl rfl ?_
  refine lq_aload_n (n := 1025) (q := 0) dL_law_1024 rfl rfl rfl ?_
  refine lq_iload_n (n := 1026) (q := 3) dL_law_1025 rfl rfl rfl ?_
  refine lq_iconst (n := 1027) (v := 1) dL_law_1026 rfl (by decide) ?_
  refine lq_iadd (n := 1028) dL_law_1027 rfl ?_
  refine lq_sld (n := 1029) (j := i + 1) (nI_pk i 1) (by omega) hL dL_law_1028 rfl ?_
  refine lq_callV (n := 1032) (a := 0) (As := [.int (xs (i + 1))]) cl8 (mkl (Or.inr hg) (by decide) (by rfl)) (t_X8_drawn (Or.inr hg) N (xs (i + 1)) h) hx (by decide) ok_X8_drawn rfl rfl lk_L_143 im_X8_drawn se_X8_drawn dL_law_1029 rfl rfl (Nat.le_of_ble_eq_true rfl) ?_
  show lq g l b L xs 1032 [(0, .ref b), (1, .ref (mad g 0)), (2, .ref (mad g 82)), (3, .int (nI i))] [.int r] h1
  refine lq_aload_n (n := 1033) (q := 2) dL_law_1032 rfl rfl rfl ?_
  refine lq_aload_n (n := 1034) (q := 0) dL_law_1033 rfl rfl rfl ?_
  refine lq_iload_n (n := 1035) (q := 3) dL_law_1034 rfl rfl rfl ?_
  refine lq_iconst (n := 1036) (v := 1) dL_law_1035 rfl (by decide) ?_
  refine lq_iadd (n := 1037) dL_law_1036 rfl ?_
  refine lq_sld (n := 1038) (j := i + 1) (nI_pk i 1) (by omega) hL dL_law_1037 rfl ?_
  refine lq_callV (n := 1041) (a := 82) (As := [.int (xs (i + 1))]) cl9 (mkm hg (by decide) (by rfl)) (t_X9_drawn hg N (xs (i + 1)) h1) hm (by decide) ok_X9_drawn rfl rfl lk_L_146 im_X9_drawn se_X9_drawn dL_law_1038 rfl rfl (Nat.le_of_ble_eq_true rfl) ?_
  show lq g l b L xs 1041 [(0, .ref b), (1, .ref (mad g 0)), (2, .ref (mad g 82)), (3, .int (nI i))] [.int r, .int r] h2
  refine lq_same (t := 1115) dL_law_1041 (by decide) rfl ?_
  exact K
set_option maxRecDepth 20000 in
set_option maxHeartbeats 4000000 in
theorem lc_31 {g : mG} {l : Launch} (hg : mnn g = 101) {b L : Nat} {xs : Nat → Int32} (N i : Nat) (hi : i + 5 ≤ L) (hL : L ≤ 2560) (h h2 : mH) (h1 : mH) (r : Int32) (hx : x_X8_keep (xs (i + 1)) h = some (r, h1)) (hm : x_X9_keep N (xs (i + 1)) h1 = some (r, h2)) (K : lq g l b L xs 1115 [(0, .ref b), (1, .ref (mad g 0)), (2, .ref (mad g 82)), (3, .int (nI i))] [] h2) : lq g l b L xs 1046 [(0, .ref b), (1, .ref (mad g 0)), (2, .ref (mad g 82)), (3, .int (nI i))] [] h := by
  refine lq_aload_n (n := 1047) (q := 1) dL_law_1046 rfl rfl rfl ?_
  refine lq_aload_n (n := 1048) (q := 0) dL_law_1047 rfl rfl rfl ?_
  refine lq_iload_n (n := 1049) (q := 3) dL_law_1048 rfl rfl rfl ?_
  refine lq_iconst (n := 1050) (v := 1) dL_law_1049 rfl (by decide) ?_
  refine lq_iadd (n := 1051) dL_law_1050 rfl ?_
  refine lq_sld (n := 1052) (j := i + 1) (nI_pk i 1) (by omega) hL dL_law_1051 rfl ?_
  refine lq_callV (n := 1055) (a := 0) (As := [.int (xs (i + 1))]) cl8 (mkl (Or.inr hg) (by decide) (by rfl)) (t_X8_keep (Or.inr hg) (xs (i + 1)) h) hx (by decide) ok_X8_keep rfl rfl lk_L_147 im_X8_keep se_X8_keep dL_law_1052 rfl rfl (Nat.le_of_ble_eq_true rfl) ?_
  show lq g l b L xs 1055 [(0, .ref b), (1, .ref (mad g 0)), (2, .ref (mad g 82)), (3, .int (nI i))] [.int r] h1
  refine lq_aload_n (n := 1056) (q := 2) dL_law_1055 rfl rfl rfl ?_
  refine lq_aload_n (n := 1057) (q := 0) dL_law_1056 rfl rfl rfl ?_
  refine lq_iload_n (n := 1058) (q := 3) dL_law_1057 rfl rfl rfl ?_
  refine lq_iconst (n := 1059) (v := 1) dL_law_1058 rfl (by decide) ?_
  refine lq_iadd (n := 1060) dL_law_1059 rfl ?_
  refine lq_sld (n := 1061) (j := i + 1) (nI_pk i 1) (by omega) hL dL_law_1060 rfl ?_
  refine lq_callV (n := 1064) (a := 82) (As := [.int (xs (i + 1))]) cl9 (mkm hg (by decide) (by rfl)) (t_X9_keep hg N (xs (i + 1)) h1) hm (by decide) ok_X9_keep rfl rfl lk_L_150 im_X9_keep se_X9_keep dL_law_1061 rfl rfl (Nat.le_of_ble_eq_true rfl) ?_
  show lq g l b L xs 1064 [(0, .ref b), (1, .ref (mad g 0)), (2, .ref (mad g 82)), (3, .int (nI i))] [.int r, .int r] h2
  refine lq_same (t := 1115) dL_law_1064 (by decide) rfl ?_
  exact K
set_option maxRecDepth 20000 in
set_option maxHeartbeats 4000000 in
theorem lc_32 {g : mG} {l : Launch} (hg : mnn g = 101) {b L : Nat} {xs : Nat → Int32} (N i : Nat) (hi : i + 5 ≤ L) (hL : L ≤ 2560) (h h2 : mH) (h1 : mH) (r : Int32) (hx : x_X8_again N (xs (i + 1)) h = some (r, h1)) (hm : x_X9_again N (xs (i + 1)) h1 = some (r, h2)) (K : lq g l b L xs 1115 [(0, .ref b), (1, .ref (mad g 0)), (2, .ref (mad g 82)), (3, .int (nI i))] [] h2) : lq g l b L xs 1069 [(0, .ref b), (1, .ref (mad g 0)), (2, .ref (mad g 82)), (3, .int (nI i))] [] h := by
  refine lq_aload_n (n := 1070) (q := 1) dL_law_1069 rfl rfl rfl ?_
  refine lq_aload_n (n := 1071) (q := 0) dL_law_1070 rfl rfl rfl ?_
  refine lq_iload_n (n := 1072) (q := 3) dL_law_1071 rfl rfl rfl ?_
  refine lq_iconst (n := 1073) (v := 1) dL_law_1072 rfl (by decide) ?_
  refine lq_iadd (n := 1074) dL_law_1073 rfl ?_
  refine lq_sld (n := 1075) (j := i + 1) (nI_pk i 1) (by omega) hL dL_law_1074 rfl ?_
  refine lq_callV (n := 1078) (a := 0) (As := [.int (xs (i + 1))]) cl8 (mkl (Or.inr hg) (by decide) (by rfl)) (t_X8_again (Or.inr hg) N (xs (i + 1)) h) hx (by decide) ok_X8_again rfl rfl lk_L_151 im_X8_again se_X8_again dL_law_1075 rfl rfl (Nat.le_of_ble_eq_true rfl) ?_
  show lq g l b L xs 1078 [(0, .ref b), (1, .ref (mad g 0)), (2, .ref (mad g 82)), (3, .int (nI i))] [.int r] h1
  refine lq_aload_n (n := 1079) (q := 2) dL_law_1078 rfl rfl rfl ?_
  refine lq_aload_n (n := 1080) (q := 0) dL_law_1079 rfl rfl rfl ?_
  refine lq_iload_n (n := 1081) (q := 3) dL_law_1080 rfl rfl rfl ?_
  refine lq_iconst (n := 1082) (v := 1) dL_law_1081 rfl (by decide) ?_
  refine lq_iadd (n := 1083) dL_law_1082 rfl ?_
  refine lq_sld (n := 1084) (j := i + 1) (nI_pk i 1) (by omega) hL dL_law_1083 rfl ?_
  refine lq_callV (n := 1087) (a := 82) (As := [.int (xs (i + 1))]) cl9 (mkm hg (by decide) (by rfl)) (t_X9_again hg N (xs (i + 1)) h1) hm (by decide) ok_X9_again rfl rfl lk_L_154 im_X9_again se_X9_again dL_law_1084 rfl rfl (Nat.le_of_ble_eq_true rfl) ?_
  show lq g l b L xs 1087 [(0, .ref b), (1, .ref (mad g 0)), (2, .ref (mad g 82)), (3, .int (nI i))] [.int r, .int r] h2
  refine lq_same (t := 1115) dL_law_1087 (by decide) rfl ?_
  exact K
set_option maxRecDepth 20000 in
set_option maxHeartbeats 4000000 in
theorem lc_33 {g : mG} {l : Launch} (hg : mnn g = 101) {b L : Nat} {xs : Nat → Int32} (N i : Nat) (hi : i + 5 ≤ L) (hL : L ≤ 2560) (h h2 : mH) (r : Int32) (hx : x_X8_count N (xs (i + 1)) h = some r) (hm : x_X9_count N (xs (i + 1)) h = some (r, h2)) (K : lq g l b L xs 1115 [(0, .ref b), (1, .ref (mad g 0)), (2, .ref (mad g 82)), (3, .int (nI i))] [] h2) : lq g l b L xs 1092 [(0, .ref b), (1, .ref (mad g 0)), (2, .ref (mad g 82)), (3, .int (nI i))] [] h := by
  refine lq_aload_n (n := 1093) (q := 1) dL_law_1092 rfl rfl rfl ?_
  refine lq_aload_n (n := 1094) (q := 0) dL_law_1093 rfl rfl rfl ?_
  refine lq_iload_n (n := 1095) (q := 3) dL_law_1094 rfl rfl rfl ?_
  refine lq_iconst (n := 1096) (v := 1) dL_law_1095 rfl (by decide) ?_
  refine lq_iadd (n := 1097) dL_law_1096 rfl ?_
  refine lq_sld (n := 1098) (j := i + 1) (nI_pk i 1) (by omega) hL dL_law_1097 rfl ?_
  refine lq_callV (n := 1101) (a := 0) (As := [.int (xs (i + 1))]) cl8 (mkl (Or.inr hg) (by decide) (by rfl)) (t_X8_count (Or.inr hg) N (xs (i + 1)) h) hx (by decide) ok_X8_count rfl rfl lk_L_155 im_X8_count se_X8_count dL_law_1098 rfl rfl (Nat.le_of_ble_eq_true rfl) ?_
  show lq g l b L xs 1101 [(0, .ref b), (1, .ref (mad g 0)), (2, .ref (mad g 82)), (3, .int (nI i))] [.int r] h
  refine lq_aload_n (n := 1102) (q := 2) dL_law_1101 rfl rfl rfl ?_
  refine lq_aload_n (n := 1103) (q := 0) dL_law_1102 rfl rfl rfl ?_
  refine lq_iload_n (n := 1104) (q := 3) dL_law_1103 rfl rfl rfl ?_
  refine lq_iconst (n := 1105) (v := 1) dL_law_1104 rfl (by decide) ?_
  refine lq_iadd (n := 1106) dL_law_1105 rfl ?_
  refine lq_sld (n := 1107) (j := i + 1) (nI_pk i 1) (by omega) hL dL_law_1106 rfl ?_
  refine lq_callV (n := 1110) (a := 82) (As := [.int (xs (i + 1))]) cl9 (mkm hg (by decide) (by rfl)) (t_X9_count hg N (xs (i + 1)) h) hm (by decide) ok_X9_count rfl rfl lk_L_158 im_X9_count se_X9_count dL_law_1107 rfl rfl (Nat.le_of_ble_eq_true rfl) ?_
  show lq g l b L xs 1110 [(0, .ref b), (1, .ref (mad g 0)), (2, .ref (mad g 82)), (3, .int (nI i))] [.int r, .int r] h2
  refine lq_same (t := 1115) dL_law_1110 (by decide) rfl ?_
  exact K
noncomputable def xl (N : Nat) (op a b c d : Int32) (h : mH) : Option mH :=
  if op = 0 then xcW (x_X8_write a h) (fun h1 => x_X9_write a h1)
  else if op = 1 then xcW (x_X8_wipe h) (fun h1 => x_X9_wipe h1)
  else if op = 2 then xcW (x_X8_fault N h) (fun h1 => x_X9_fault N h1)
  else if op = 3 then xcW (x_X8_sheet N h) (fun h1 => x_X9_sheet N h1)
  else if op = 4 then xcR (x_X8_total a b h) h (fun h1 => x_X9_total a b h1)
  else if op = 5 then xcR (x_X8_pin a h) h (fun h1 => x_X9_pin a h1)
  else if op = 6 then xcW (x_X8_test N h) (fun h1 => x_X9_test N h1)
  else if op = 7 then xcW (x_X8_filled N a h) (fun h1 => x_X9_filled N a h1)
  else if op = 8 then xcW (x_X8_mended N a h) (fun h1 => x_X9_mended N a h1)
  else if op = 9 then xcR (x_X8_answers h) h (fun h1 => x_X9_answers N h1)
  else if op = 10 then xcR (x_X8_cell N a b h) h (fun h1 => x_X9_cell N a b h1)
  else if op = 11 then xcR (x_X8_odds N a (if b = 0 then 0 else 1) h) h (fun h1 => x_X9_odds N a (if b = 0 then 0 else 1) h1)
  else if op = 12 then xcR (x_X8_ask N a h) h (fun h1 => x_X9_ask N a h1)
  else if op = 13 then xcR (x_X8_plane N h) h (fun h1 => x_X9_plane N h1)
  else if op = 14 then xcW (x_X8_go a h) (fun h1 => x_X9_go N a h1)
  else if op = 15 then xcW (x_X8_swap N a b c d h) (fun h1 => x_X9_swap N a b c d h1)
  else if op = 16 then xcW (x_X8_setTotal N a b c h) (fun h1 => x_X9_setTotal N a b c h1)
  else if op = 17 then xcW (x_X8_setPin N a b h) (fun h1 => x_X9_setPin N a b h1)
  else if op = 18 then xcW (x_X8_undo N h) (fun h1 => x_X9_undo N h1)
  else if op = 19 then xcR (x_X8_switches N a h) h (fun h1 => x_X9_switches N a h1)
  else if op = 20 then xcW (x_X8_reached N h) (fun h1 => x_X9_reached N h1)
  else if op = 21 then xcW (x_X8_apart N a h) (fun h1 => x_X9_apart N a h1)
  else if op = 22 then xcR (x_X8_key N a h) h (fun h1 => x_X9_key N a h1)
  else if op = 23 then xcW (x_X8_judge N a ((xlshl b.toInt64 32) ||| (c.toInt64 &&& (4294967295 : Int64))) h) (fun h1 => x_X9_judge N a ((xlshl b.toInt64 32) ||| (c.toInt64 &&& (4294967295 : Int64))) h1)
  else if op = 24 then xcW (x_X8_see a b h) (fun h1 => x_X9_see a b h1)
  else if op = 25 then xcW (x_X8_unsee h) (fun h1 => x_X9_unsee h1)
  else if op = 26 then xcR (x_X8_which N a h) h (fun h1 => x_X9_which N a h1)
  else if op = 27 then xcW (x_X8_share N a (if b = 0 then 0 else 1) h) (fun h1 => x_X9_share N a (if b = 0 then 0 else 1) h1)
  else if op = 28 then xcW (x_X8_loose N a (if b = 0 then 0 else 1) h) (fun h1 => x_X9_loose N a (if b = 0 then 0 else 1) h1)
  else if op = 29 then xcW (x_X8_seed ((xlshl a.toInt64 32) ||| (b.toInt64 &&& (4294967295 : Int64))) h) (fun h1 => x_X9_seed ((xlshl a.toInt64 32) ||| (b.toInt64 &&& (4294967295 : Int64))) h1)
  else if op = 30 then xcW (x_X8_drawn N a h) (fun h1 => x_X9_drawn N a h1)
  else if op = 31 then xcW (x_X8_keep a h) (fun h1 => x_X9_keep N a h1)
  else if op = 32 then xcW (x_X8_again N a h) (fun h1 => x_X9_again N a h1)
  else if op = 33 then xcR (x_X8_count N a h) h (fun h1 => x_X9_count N a h1)
  else some h
set_option maxRecDepth 20000 in
set_option maxHeartbeats 4000000 in
theorem law_step {g : mG} {l : Launch} (hg : mnn g = 101) {b L : Nat} {xs : Nat → Int32} (N i : Nat) (hi : i + 5 ≤ L) (hL : L ≤ 2560) (h h2 : mH) (hx : xl N (xs i &&& 63) (xs (i + 1)) (xs (i + 2)) (xs (i + 3)) (xs (i + 4)) h = some h2) (K : lq g l b L xs 1115 [(0, .ref b), (1, .ref (mad g 0)), (2, .ref (mad g 82)), (3, .int (nI i))] [] h2) : lq g l b L xs 32 [(0, .ref b), (1, .ref (mad g 0)), (2, .ref (mad g 82)), (3, .int (nI i))] [.int (xs i &&& 63)] h := by
  unfold xl at hx
  by_cases c0 : xs i &&& 63 = 0
  · rw [if_pos c0] at hx
    obtain ⟨r, h1, e1, e2⟩ := xcW_some hx
    exact lq_tIn (v := 0) (t := 184) dL_law_32 (by rw [c0]; decide) (by decide) (by decide) rfl (by decide) (lc_0 hg N i hi hL h h2 h1 r e1 e2 K)
  rw [if_neg c0] at hx
  by_cases c1 : xs i &&& 63 = 1
  · rw [if_pos c1] at hx
    obtain ⟨r, h1, e1, e2⟩ := xcW_some hx
    exact lq_tIn (v := 1) (t := 207) dL_law_32 (by rw [c1]; decide) (by decide) (by decide) rfl (by decide) (lc_1 hg N i hi hL h h2 h1 r e1 e2 K)
  rw [if_neg c1] at hx
  by_cases c2 : xs i &&& 63 = 2
  · rw [if_pos c2] at hx
    obtain ⟨r, h1, e1, e2⟩ := xcW_some hx
    exact lq_tIn (v := 2) (t := 220) dL_law_32 (by rw [c2]; decide) (by decide) (by decide) rfl (by decide) (lc_2 hg N i hi hL h h2 h1 r e1 e2 K)
  rw [if_neg c2] at hx
  by_cases c3 : xs i &&& 63 = 3
  · rw [if_pos c3] at hx
    obtain ⟨r, h1, e1, e2⟩ := xcW_some hx
    exact lq_tIn (v := 3) (t := 233) dL_law_32 (by rw [c3]; decide) (by decide) (by decide) rfl (by decide) (lc_3 hg N i hi hL h h2 h1 r e1 e2 K)
  rw [if_neg c3] at hx
  by_cases c4 : xs i &&& 63 = 4
  · rw [if_pos c4] at hx
    obtain ⟨r, e1, e2⟩ := xcR_some hx
    exact lq_tIn (v := 4) (t := 246) dL_law_32 (by rw [c4]; decide) (by decide) (by decide) rfl (by decide) (lc_4 hg N i hi hL h h2 r e1 e2 K)
  rw [if_neg c4] at hx
  by_cases c5 : xs i &&& 63 = 5
  · rw [if_pos c5] at hx
    obtain ⟨r, e1, e2⟩ := xcR_some hx
    exact lq_tIn (v := 5) (t := 279) dL_law_32 (by rw [c5]; decide) (by decide) (by decide) rfl (by decide) (lc_5 hg N i hi hL h h2 r e1 e2 K)
  rw [if_neg c5] at hx
  by_cases c6 : xs i &&& 63 = 6
  · rw [if_pos c6] at hx
    obtain ⟨r, h1, e1, e2⟩ := xcW_some hx
    exact lq_tIn (v := 6) (t := 302) dL_law_32 (by rw [c6]; decide) (by decide) (by decide) rfl (by decide) (lc_6 hg N i hi hL h h2 h1 r e1 e2 K)
  rw [if_neg c6] at hx
  by_cases c7 : xs i &&& 63 = 7
  · rw [if_pos c7] at hx
    obtain ⟨r, h1, e1, e2⟩ := xcW_some hx
    exact lq_tIn (v := 7) (t := 315) dL_law_32 (by rw [c7]; decide) (by decide) (by decide) rfl (by decide) (lc_7 hg N i hi hL h h2 h1 r e1 e2 K)
  rw [if_neg c7] at hx
  by_cases c8 : xs i &&& 63 = 8
  · rw [if_pos c8] at hx
    obtain ⟨r, h1, e1, e2⟩ := xcW_some hx
    exact lq_tIn (v := 8) (t := 338) dL_law_32 (by rw [c8]; decide) (by decide) (by decide) rfl (by decide) (lc_8 hg N i hi hL h h2 h1 r e1 e2 K)
  rw [if_neg c8] at hx
  by_cases c9 : xs i &&& 63 = 9
  · rw [if_pos c9] at hx
    obtain ⟨r, e1, e2⟩ := xcR_some hx
    exact lq_tIn (v := 9) (t := 361) dL_law_32 (by rw [c9]; decide) (by decide) (by decide) rfl (by decide) (lc_9 hg N i hi hL h h2 r e1 e2 K)
  rw [if_neg c9] at hx
  by_cases c10 : xs i &&& 63 = 10
  · rw [if_pos c10] at hx
    obtain ⟨r, e1, e2⟩ := xcR_some hx
    exact lq_tIn (v := 10) (t := 374) dL_law_32 (by rw [c10]; decide) (by decide) (by decide) rfl (by decide) (lc_10 hg N i hi hL h h2 r e1 e2 K)
  rw [if_neg c10] at hx
  by_cases c11 : xs i &&& 63 = 11
  · rw [if_pos c11] at hx
    obtain ⟨r, e1, e2⟩ := xcR_some hx
    exact lq_tIn (v := 11) (t := 407) dL_law_32 (by rw [c11]; decide) (by decide) (by decide) rfl (by decide) (lc_11 hg N i hi hL h h2 r e1 e2 K)
  rw [if_neg c11] at hx
  by_cases c12 : xs i &&& 63 = 12
  · rw [if_pos c12] at hx
    obtain ⟨r, e1, e2⟩ := xcR_some hx
    exact lq_tIn (v := 12) (t := 456) dL_law_32 (by rw [c12]; decide) (by decide) (by decide) rfl (by decide) (lc_12 hg N i hi hL h h2 r e1 e2 K)
  rw [if_neg c12] at hx
  by_cases c13 : xs i &&& 63 = 13
  · rw [if_pos c13] at hx
    obtain ⟨r, e1, e2⟩ := xcR_some hx
    exact lq_tIn (v := 13) (t := 479) dL_law_32 (by rw [c13]; decide) (by decide) (by decide) rfl (by decide) (lc_13 hg N i hi hL h h2 r e1 e2 K)
  rw [if_neg c13] at hx
  by_cases c14 : xs i &&& 63 = 14
  · rw [if_pos c14] at hx
    obtain ⟨r, h1, e1, e2⟩ := xcW_some hx
    exact lq_tIn (v := 14) (t := 492) dL_law_32 (by rw [c14]; decide) (by decide) (by decide) rfl (by decide) (lc_14 hg N i hi hL h h2 h1 r e1 e2 K)
  rw [if_neg c14] at hx
  by_cases c15 : xs i &&& 63 = 15
  · rw [if_pos c15] at hx
    obtain ⟨r, h1, e1, e2⟩ := xcW_some hx
    exact lq_tIn (v := 15) (t := 515) dL_law_32 (by rw [c15]; decide) (by decide) (by decide) rfl (by decide) (lc_15 hg N i hi hL h h2 h1 r e1 e2 K)
  rw [if_neg c15] at hx
  by_cases c16 : xs i &&& 63 = 16
  · rw [if_pos c16] at hx
    obtain ⟨r, h1, e1, e2⟩ := xcW_some hx
    exact lq_tIn (v := 16) (t := 568) dL_law_32 (by rw [c16]; decide) (by decide) (by decide) rfl (by decide) (lc_16 hg N i hi hL h h2 h1 r e1 e2 K)
  rw [if_neg c16] at hx
  by_cases c17 : xs i &&& 63 = 17
  · rw [if_pos c17] at hx
    obtain ⟨r, h1, e1, e2⟩ := xcW_some hx
    exact lq_tIn (v := 17) (t := 611) dL_law_32 (by rw [c17]; decide) (by decide) (by decide) rfl (by decide) (lc_17 hg N i hi hL h h2 h1 r e1 e2 K)
  rw [if_neg c17] at hx
  by_cases c18 : xs i &&& 63 = 18
  · rw [if_pos c18] at hx
    obtain ⟨r, h1, e1, e2⟩ := xcW_some hx
    exact lq_tIn (v := 18) (t := 644) dL_law_32 (by rw [c18]; decide) (by decide) (by decide) rfl (by decide) (lc_18 hg N i hi hL h h2 h1 r e1 e2 K)
  rw [if_neg c18] at hx
  by_cases c19 : xs i &&& 63 = 19
  · rw [if_pos c19] at hx
    obtain ⟨r, e1, e2⟩ := xcR_some hx
    exact lq_tIn (v := 19) (t := 657) dL_law_32 (by rw [c19]; decide) (by decide) (by decide) rfl (by decide) (lc_19 hg N i hi hL h h2 r e1 e2 K)
  rw [if_neg c19] at hx
  by_cases c20 : xs i &&& 63 = 20
  · rw [if_pos c20] at hx
    obtain ⟨r, h1, e1, e2⟩ := xcW_some hx
    exact lq_tIn (v := 20) (t := 680) dL_law_32 (by rw [c20]; decide) (by decide) (by decide) rfl (by decide) (lc_20 hg N i hi hL h h2 h1 r e1 e2 K)
  rw [if_neg c20] at hx
  by_cases c21 : xs i &&& 63 = 21
  · rw [if_pos c21] at hx
    obtain ⟨r, h1, e1, e2⟩ := xcW_some hx
    exact lq_tIn (v := 21) (t := 693) dL_law_32 (by rw [c21]; decide) (by decide) (by decide) rfl (by decide) (lc_21 hg N i hi hL h h2 h1 r e1 e2 K)
  rw [if_neg c21] at hx
  by_cases c22 : xs i &&& 63 = 22
  · rw [if_pos c22] at hx
    obtain ⟨r, e1, e2⟩ := xcR_some hx
    exact lq_tIn (v := 22) (t := 716) dL_law_32 (by rw [c22]; decide) (by decide) (by decide) rfl (by decide) (lc_22 hg N i hi hL h h2 r e1 e2 K)
  rw [if_neg c22] at hx
  by_cases c23 : xs i &&& 63 = 23
  · rw [if_pos c23] at hx
    obtain ⟨r, h1, e1, e2⟩ := xcW_some hx
    exact lq_tIn (v := 23) (t := 739) dL_law_32 (by rw [c23]; decide) (by decide) (by decide) rfl (by decide) (lc_23 hg N i hi hL h h2 h1 r e1 e2 K)
  rw [if_neg c23] at hx
  by_cases c24 : xs i &&& 63 = 24
  · rw [if_pos c24] at hx
    obtain ⟨r, h1, e1, e2⟩ := xcW_some hx
    exact lq_tIn (v := 24) (t := 802) dL_law_32 (by rw [c24]; decide) (by decide) (by decide) rfl (by decide) (lc_24 hg N i hi hL h h2 h1 r e1 e2 K)
  rw [if_neg c24] at hx
  by_cases c25 : xs i &&& 63 = 25
  · rw [if_pos c25] at hx
    obtain ⟨r, h1, e1, e2⟩ := xcW_some hx
    exact lq_tIn (v := 25) (t := 835) dL_law_32 (by rw [c25]; decide) (by decide) (by decide) rfl (by decide) (lc_25 hg N i hi hL h h2 h1 r e1 e2 K)
  rw [if_neg c25] at hx
  by_cases c26 : xs i &&& 63 = 26
  · rw [if_pos c26] at hx
    obtain ⟨r, e1, e2⟩ := xcR_some hx
    exact lq_tIn (v := 26) (t := 848) dL_law_32 (by rw [c26]; decide) (by decide) (by decide) rfl (by decide) (lc_26 hg N i hi hL h h2 r e1 e2 K)
  rw [if_neg c26] at hx
  by_cases c27 : xs i &&& 63 = 27
  · rw [if_pos c27] at hx
    obtain ⟨r, h1, e1, e2⟩ := xcW_some hx
    exact lq_tIn (v := 27) (t := 871) dL_law_32 (by rw [c27]; decide) (by decide) (by decide) rfl (by decide) (lc_27 hg N i hi hL h h2 h1 r e1 e2 K)
  rw [if_neg c27] at hx
  by_cases c28 : xs i &&& 63 = 28
  · rw [if_pos c28] at hx
    obtain ⟨r, h1, e1, e2⟩ := xcW_some hx
    exact lq_tIn (v := 28) (t := 920) dL_law_32 (by rw [c28]; decide) (by decide) (by decide) rfl (by decide) (lc_28 hg N i hi hL h h2 h1 r e1 e2 K)
  rw [if_neg c28] at hx
  by_cases c29 : xs i &&& 63 = 29
  · rw [if_pos c29] at hx
    obtain ⟨r, h1, e1, e2⟩ := xcW_some hx
    exact lq_tIn (v := 29) (t := 969) dL_law_32 (by rw [c29]; decide) (by decide) (by decide) rfl (by decide) (lc_29 hg N i hi hL h h2 h1 r e1 e2 K)
  rw [if_neg c29] at hx
  by_cases c30 : xs i &&& 63 = 30
  · rw [if_pos c30] at hx
    obtain ⟨r, h1, e1, e2⟩ := xcW_some hx
    exact lq_tIn (v := 30) (t := 1023) dL_law_32 (by rw [c30]; decide) (by decide) (by decide) rfl (by decide) (lc_30 hg N i hi hL h h2 h1 r e1 e2 K)
  rw [if_neg c30] at hx
  by_cases c31 : xs i &&& 63 = 31
  · rw [if_pos c31] at hx
    obtain ⟨r, h1, e1, e2⟩ := xcW_some hx
    exact lq_tIn (v := 31) (t := 1046) dL_law_32 (by rw [c31]; decide) (by decide) (by decide) rfl (by decide) (lc_31 hg N i hi hL h h2 h1 r e1 e2 K)
  rw [if_neg c31] at hx
  by_cases c32 : xs i &&& 63 = 32
  · rw [if_pos c32] at hx
    obtain ⟨r, h1, e1, e2⟩ := xcW_some hx
    exact lq_tIn (v := 32) (t := 1069) dL_law_32 (by rw [c32]; decide) (by decide) (by decide) rfl (by decide) (lc_32 hg N i hi hL h h2 h1 r e1 e2 K)
  rw [if_neg c32] at hx
  by_cases c33 : xs i &&& 63 = 33
  · rw [if_pos c33] at hx
    obtain ⟨r, e1, e2⟩ := xcR_some hx
    exact lq_tIn (v := 33) (t := 1092) dL_law_32 (by rw [c33]; decide) (by decide) (by decide) rfl (by decide) (lc_33 hg N i hi hL h h2 r e1 e2 K)
  rw [if_neg c33] at hx
  cases hx
  refine lq_tOut (t := 1115) dL_law_32 ?_ (by decide) K
  have e0 : (xs i &&& 63).toInt ≠ 0 := sw_ne c0 (by decide)
  have e1 : (xs i &&& 63).toInt ≠ 1 := sw_ne c1 (by decide)
  have e2 : (xs i &&& 63).toInt ≠ 2 := sw_ne c2 (by decide)
  have e3 : (xs i &&& 63).toInt ≠ 3 := sw_ne c3 (by decide)
  have e4 : (xs i &&& 63).toInt ≠ 4 := sw_ne c4 (by decide)
  have e5 : (xs i &&& 63).toInt ≠ 5 := sw_ne c5 (by decide)
  have e6 : (xs i &&& 63).toInt ≠ 6 := sw_ne c6 (by decide)
  have e7 : (xs i &&& 63).toInt ≠ 7 := sw_ne c7 (by decide)
  have e8 : (xs i &&& 63).toInt ≠ 8 := sw_ne c8 (by decide)
  have e9 : (xs i &&& 63).toInt ≠ 9 := sw_ne c9 (by decide)
  have e10 : (xs i &&& 63).toInt ≠ 10 := sw_ne c10 (by decide)
  have e11 : (xs i &&& 63).toInt ≠ 11 := sw_ne c11 (by decide)
  have e12 : (xs i &&& 63).toInt ≠ 12 := sw_ne c12 (by decide)
  have e13 : (xs i &&& 63).toInt ≠ 13 := sw_ne c13 (by decide)
  have e14 : (xs i &&& 63).toInt ≠ 14 := sw_ne c14 (by decide)
  have e15 : (xs i &&& 63).toInt ≠ 15 := sw_ne c15 (by decide)
  have e16 : (xs i &&& 63).toInt ≠ 16 := sw_ne c16 (by decide)
  have e17 : (xs i &&& 63).toInt ≠ 17 := sw_ne c17 (by decide)
  have e18 : (xs i &&& 63).toInt ≠ 18 := sw_ne c18 (by decide)
  have e19 : (xs i &&& 63).toInt ≠ 19 := sw_ne c19 (by decide)
  have e20 : (xs i &&& 63).toInt ≠ 20 := sw_ne c20 (by decide)
  have e21 : (xs i &&& 63).toInt ≠ 21 := sw_ne c21 (by decide)
  have e22 : (xs i &&& 63).toInt ≠ 22 := sw_ne c22 (by decide)
  have e23 : (xs i &&& 63).toInt ≠ 23 := sw_ne c23 (by decide)
  have e24 : (xs i &&& 63).toInt ≠ 24 := sw_ne c24 (by decide)
  have e25 : (xs i &&& 63).toInt ≠ 25 := sw_ne c25 (by decide)
  have e26 : (xs i &&& 63).toInt ≠ 26 := sw_ne c26 (by decide)
  have e27 : (xs i &&& 63).toInt ≠ 27 := sw_ne c27 (by decide)
  have e28 : (xs i &&& 63).toInt ≠ 28 := sw_ne c28 (by decide)
  have e29 : (xs i &&& 63).toInt ≠ 29 := sw_ne c29 (by decide)
  have e30 : (xs i &&& 63).toInt ≠ 30 := sw_ne c30 (by decide)
  have e31 : (xs i &&& 63).toInt ≠ 31 := sw_ne c31 (by decide)
  have e32 : (xs i &&& 63).toInt ≠ 32 := sw_ne c32 (by decide)
  have e33 : (xs i &&& 63).toInt ≠ 33 := sw_ne c33 (by decide)
  omega
theorem law_loop {g : mG} {l : Launch} (hg : mnn g = 101) {b L : Nat} {xs : Nat → Int32} (N : Nat) (hL : L ≤ 2560) (Inv : Nat → mH → Prop) (hs : ∀ t h, t < 512 → Inv t h → ∀ op a b c d, ∃ h2, xl N op a b c d h = some h2 ∧ Inv (t + 1) h2) : ∀ (k i t : Nat), i = 5 * t → i ≤ L → L ≤ i + 5 * k → ∀ h, Inv t h → lq g l b L xs 18 [(0, .ref b), (1, .ref (mad g 0)), (2, .ref (mad g 82)), (3, .int (nI i))] [] h := by
  intro k
  induction k with
  | zero =>
    intro i t hit hi hk h hI
    refine lq_iload_n (n := 19) (q := 3) dL_law_18 rfl rfl rfl ?_
    refine lq_aload_n (n := 20) (q := 0) dL_law_19 rfl rfl rfl ?_
    refine lq_slen (n := 21) dL_law_20 rfl ?_
    refine lq_iconst (n := 22) (v := 5) dL_law_21 rfl (by decide) ?_
    refine lq_isub (n := 23) dL_law_22 rfl ?_
    refine lq_gt (n := 26) (t := 1121) dL_law_23 rfl (by decide) (fun c => ?_) (fun c => ?_)
    · refine lq_iconst (n := 1122) (v := 1) dL_law_1121 rfl (by decide) ?_
      exact lq_ret dL_law_1122
    · exact absurd (nI_sub5 (by omega) (by omega)) c
  | succ k ih =>
    intro i t hit hi hk h hI
    refine lq_iload_n (n := 19) (q := 3) dL_law_18 rfl rfl rfl ?_
    refine lq_aload_n (n := 20) (q := 0) dL_law_19 rfl rfl rfl ?_
    refine lq_slen (n := 21) dL_law_20 rfl ?_
    refine lq_iconst (n := 22) (v := 5) dL_law_21 rfl (by decide) ?_
    refine lq_isub (n := 23) dL_law_22 rfl ?_
    refine lq_gt (n := 26) (t := 1121) dL_law_23 rfl (by decide) (fun c => ?_) (fun c => ?_)
    · refine lq_iconst (n := 1122) (v := 1) dL_law_1121 rfl (by decide) ?_
      exact lq_ret dL_law_1122
    · have h5 : i + 5 ≤ L := by
        rcases Nat.lt_or_ge L (i + 5) with q | q
        · exact absurd (nI_sub5 q (by omega)) c
        · exact q
      obtain ⟨h2, e2, hI2⟩ := hs t h (by omega) hI (xs i &&& 63) (xs (i + 1)) (xs (i + 2)) (xs (i + 3)) (xs (i + 4))
      refine lq_aload_n (n := 27) (q := 0) dL_law_26 rfl rfl rfl ?_
      refine lq_iload_n (n := 28) (q := 3) dL_law_27 rfl rfl rfl ?_
      refine lq_sld (n := 29) (j := i) rfl (by omega) hL dL_law_28 rfl ?_
      refine lq_bipush (n := 31) (v := 63) dL_law_29 rfl (by decide) ?_
      refine lq_iand (n := 32) dL_law_31 rfl ?_
      refine law_step hg N i h5 hL h h2 e2 ?_
      refine lq_iinc (n := 1118) (q := 3) (v := nI (i + 5)) dL_law_1115 rfl rfl (nI_pk i 5) (by decide) rfl ?_
      refine lq_goto (n := 18) dL_law_1118 (by decide) ?_
      refine lq_sub [1, 2, 3, 0] rfl ?_
      exact ih (i + 5) (t + 1) (by omega) h5 (by omega) h2 hI2
