/-! the law: a call a time, on both sides -/
def LK (X : XT) (qx qm : Nat → Nat) (b : Nat) (i : Int32) (SX : wd_W) (c s : Nat) : Prop :=
  ∀ (gx gm : Nat → Nat) (SX' SM' : wd_W) (c' s' : Nat), RW SX' SM' → c' ≤ c + 40 → s' + 2 * lenS SX ≤ s + 2 * lenS SX' → GN X (wd_ws qx gx (x_cy X) SX' 0 layX ++ wd_ws qm gm (x_cy X) SM' 0 layM) 1379 [(0, .ref b), (1, .ref (qx 0)), (2, .ref (qm 0)), (3, .int i)] [] c' s'
section LAW
variable {X : XT} {cc : ByteArray} {own : String} {nL : Nat} {rt : Option FieldType} {rm : Room} {ws ws' : va_W}
variable {pc pc' : Nat} {lc lc' : List (Nat × Value)} {st st' st0 : List Value} {cells slots cells' slots' : Nat} {b L : Nat} {xs : Nat → Int32}
theorem gn_sarg (h : NC X cc own nL rt rm) (hX : va_X b L xs (x_s X) (x_s X).heap) (hbl : b < (x_s X).heap.size) (hbA : ¬ (x_A X) b) {i : Int32} {kz : Int} (j : Int32) (hl0 : wd_lk lc 0 = some (.ref b)) (hl3 : wd_lk lc 3 = some (.int i)) (d0 : decode cc pc = .ok (.aload_n 0, 1)) (d1 : decode cc (pc + 1) = .ok (.iload_n 3, 1)) (d2 : decode cc (pc + 2) = .ok (.iconst kz, 1)) (d3 : decode cc (pc + 3) = .ok (.iadd, 1)) (d4 : decode cc (pc + 4) = .ok (.iaload, 1)) (hj : Int32.ofInt kz = j) (hin : vp_in (i + j) L) (hp : pc + 5 = pc') (k : GN X ws pc' lc (.int (xs (i + j).toNatClampNeg) :: st) cells slots) : GN X ws pc lc st cells slots := by
  subst hp
  refine gn_aload_n (pc' := pc + 1) h d0 hl0 rfl ?_
  refine gn_iload_n (pc' := pc + 2) h d1 hl3 rfl ?_
  refine gn_iconst (v := j) (pc' := pc + 3) h d2 hj rfl ?_
  refine gn_iadd (pc' := pc + 4) h d3 rfl ?_
  exact gn_sld (pc' := pc + 5) h hX hbl hbA hin d4 rfl k
theorem gn_sbool (h : NC X cc own nL rt rm) {v : Int32} (d0 : decode cc pc = .ok (.ifCond .eq 7, 3)) (d1 : decode cc (pc + 3) = .ok (.iconst 1, 1)) (d2 : decode cc (pc + 4) = .ok (.goto 4, 3)) (d3 : decode cc (pc + 7) = .ok (.iconst 0, 1)) (hp : pc + 8 = pc') (k : GN X ws pc' lc (.int (nI (b2n (decide (¬ v = 0)))) :: st) cells slots) : GN X ws pc lc (.int v :: st) cells slots := by
  subst hp
  refine gn_if_eq (tgt := pc + 7) (pc' := pc + 3) h d0 (by omega) rfl (fun e => ?_) (fun e => ?_)
  · refine gn_iconst (v := 0) (pc' := pc + 8) h d3 (by decide) rfl ?_
    rw [show decide (¬ v = 0) = false from decide_eq_false (fun q => q e)] at k
    exact k
  · refine gn_iconst (v := 1) (pc' := pc + 4) h d1 (by decide) rfl ?_
    refine gn_goto (tgt := pc + 8) h d2 (by omega) ?_
    rw [show decide (¬ v = 0) = true from decide_eq_true e] at k
    exact k
end LAW
set_option maxHeartbeats 4000000 in
theorem law_feed {X : XT} {rt : Option FieldType} (h : NC X cL_law RL 4 rt room_1) {b L : Nat} {xs : Nat → Int32} (hX : va_X b L xs (x_s X) (x_s X).heap) (hbl : b < (x_s X).heap.size) (hbA : ¬ (x_A X) b) {qx qm gx gm : Nat → Nat} {SX SM : wd_W} {c s : Nat} {i : Int32} (hR : RW SX SM) (hc : c + 80 ≤ 600000) (hs : s + 1000000 ≤ 7302250) (h1 : vp_in (i + 1) L) (h2 : vp_in (i + 2) L) (h3 : vp_in (i + 3) L) (h4 : vp_in (i + 4) L) (h5 : vp_in (i + 5) L) (K : LK X qx qm b i SX c s) : GN X (wd_ws qx gx (x_cy X) SX 0 layX ++ wd_ws qm gm (x_cy X) SM 0 layM) 204 [(0, .ref b), (1, .ref (qx 0)), (2, .ref (qm 0)), (3, .int i)] [] c s := by
  obtain ⟨v, SX', SM', nc, ns, cX, cM, hR', hn, hz⟩ := p_feed (x_l X) (x_D X) qx gx qm gm (x_cy X) (x_z X) hR (xs (i + 1).toNatClampNeg) (xs (i + 2).toNatClampNeg) (xs (i + 3).toNatClampNeg) (xs (i + 4).toNatClampNeg) (xs (i + 5).toNatClampNeg)
  have hlen : lenS SX' ≤ 120000 := by
    obtain ⟨st, w, _⟩ := hR'
    exact lenS_le w
  refine gn_aload_n (pc' := 205) h dL_law_204 rfl rfl ?_
  refine gn_sarg (pc' := 210) h hX hbl hbA (1 : Int32) rfl rfl dL_law_205 dL_law_206 dL_law_207 dL_law_208 dL_law_209 (by decide) h1 rfl ?_
  refine gn_sarg (pc' := 215) h hX hbl hbA (2 : Int32) rfl rfl dL_law_210 dL_law_211 dL_law_212 dL_law_213 dL_law_214 (by decide) h2 rfl ?_
  refine gn_sarg (pc' := 220) h hX hbl hbA (3 : Int32) rfl rfl dL_law_215 dL_law_216 dL_law_217 dL_law_218 dL_law_219 (by decide) h3 rfl ?_
  refine gn_sarg (pc' := 225) h hX hbl hbA (4 : Int32) rfl rfl dL_law_220 dL_law_221 dL_law_222 dL_law_223 dL_law_224 (by decide) h4 rfl ?_
  refine gn_sarg (pc' := 230) h hX hbl hbA (5 : Int32) rfl rfl dL_law_225 dL_law_226 dL_law_227 dL_law_228 dL_law_229 (by decide) h5 rfl ?_
  refine gn_callX (lay := layX) (q := qx) (g := gx) (S := SX) (rest := wd_ws qm gm (x_cy X) SM 0 layM) (n := 5) (b := 0) (C := RX11) (As := [.int (xs (i + 1).toNatClampNeg), .int (xs (i + 2).toNatClampNeg), .int (xs (i + 3).toNatClampNeg), .int (xs (i + 4).toNatClampNeg), .int (xs (i + 5).toNatClampNeg)]) (st := []) (pc' := 233) (st' := [.int v]) (cells' := (c + nc)) (slots' := (s + ns)) h dL_law_230 ⟨mw_263, mw_266, mw_2, ⟨by decide +kernel, by decide +kernel⟩, by decide +kernel, Nat.le_of_ble_eq_true rfl, Nat.le_of_ble_eq_true rfl, (show c + 0 ≤ 600000 by omega), (show s + 0 ≤ 7302250 by omega)⟩ mw_264 mw_265 rfl rfl rfl rfl (Nat.le_of_ble_eq_true rfl) cX rfl rfl rfl rfl (fun gx' _ => ?_)
  refine gn_swap ?_
  refine gn_aload_n (pc' := 234) h dL_law_233 rfl rfl ?_
  refine gn_sarg (pc' := 239) h hX hbl hbA (1 : Int32) rfl rfl dL_law_234 dL_law_235 dL_law_236 dL_law_237 dL_law_238 (by decide) h1 rfl ?_
  refine gn_sarg (pc' := 244) h hX hbl hbA (2 : Int32) rfl rfl dL_law_239 dL_law_240 dL_law_241 dL_law_242 dL_law_243 (by decide) h2 rfl ?_
  refine gn_sarg (pc' := 249) h hX hbl hbA (3 : Int32) rfl rfl dL_law_244 dL_law_245 dL_law_246 dL_law_247 dL_law_248 (by decide) h3 rfl ?_
  refine gn_sarg (pc' := 254) h hX hbl hbA (4 : Int32) rfl rfl dL_law_249 dL_law_250 dL_law_251 dL_law_252 dL_law_253 (by decide) h4 rfl ?_
  refine gn_sarg (pc' := 259) h hX hbl hbA (5 : Int32) rfl rfl dL_law_254 dL_law_255 dL_law_256 dL_law_257 dL_law_258 (by decide) h5 rfl ?_
  refine gn_callX (lay := layM) (q := qm) (g := gm) (S := SM) (rest := wd_ws qx gx' (x_cy X) SX' 0 layX) (n := 5) (b := 0) (C := RX12) (As := [.int (xs (i + 1).toNatClampNeg), .int (xs (i + 2).toNatClampNeg), .int (xs (i + 3).toNatClampNeg), .int (xs (i + 4).toNatClampNeg), .int (xs (i + 5).toNatClampNeg)]) (st := [.int v]) (pc' := 262) (st' := [.int v, .int v]) (cells' := (c + nc + 0)) (slots' := (s + ns + 0)) h dL_law_259 ⟨mw_277, mw_280, mw_5, ⟨by decide +kernel, by decide +kernel⟩, by decide +kernel, Nat.le_of_ble_eq_true rfl, Nat.le_of_ble_eq_true rfl, (show c + nc + 0 ≤ 600000 by omega), (show s + ns + 0 ≤ 7302250 by omega)⟩ mw_278 mw_279 rfl rfl rfl rfl (Nat.le_of_ble_eq_true rfl) cM rfl rfl rfl rfl (fun gm' _ => ?_)
  refine gn_swap ?_
  exact gn_icmp_eq (tgt := 1379) (pc' := 265) h dL_law_262 (by decide) rfl (fun _ => (K gx' gm' SX' SM' (c + nc + 0) (s + ns + 0) hR' (by omega) (by omega))) (fun q => absurd rfl q)
set_option maxHeartbeats 4000000 in
theorem law_end {X : XT} {rt : Option FieldType} (h : NC X cL_law RL 4 rt room_1) {b L : Nat} {xs : Nat → Int32} (hX : va_X b L xs (x_s X) (x_s X).heap) (hbl : b < (x_s X).heap.size) (hbA : ¬ (x_A X) b) {qx qm gx gm : Nat → Nat} {SX SM : wd_W} {c s : Nat} {i : Int32} (hR : RW SX SM) (hc : c + 80 ≤ 600000) (hs : s + 1000000 ≤ 7302250) (h1 : vp_in (i + 1) L) (h2 : vp_in (i + 2) L) (h3 : vp_in (i + 3) L) (h4 : vp_in (i + 4) L) (h5 : vp_in (i + 5) L) (K : LK X qx qm b i SX c s) : GN X (wd_ws qx gx (x_cy X) SX 0 layX ++ wd_ws qm gm (x_cy X) SM 0 layM) 267 [(0, .ref b), (1, .ref (qx 0)), (2, .ref (qm 0)), (3, .int i)] [] c s := by
  obtain ⟨v, SX', SM', nc, ns, cX, cM, hR', hn, hz⟩ := p_end (x_l X) (x_D X) qx gx qm gm (x_cy X) (x_z X) hR (xs (i + 1).toNatClampNeg)
  have hlen : lenS SX' ≤ 120000 := by
    obtain ⟨st, w, _⟩ := hR'
    exact lenS_le w
  refine gn_aload_n (pc' := 268) h dL_law_267 rfl rfl ?_
  refine gn_sarg (pc' := 273) h hX hbl hbA (1 : Int32) rfl rfl dL_law_268 dL_law_269 dL_law_270 dL_law_271 dL_law_272 (by decide) h1 rfl ?_
  refine gn_callX (lay := layX) (q := qx) (g := gx) (S := SX) (rest := wd_ws qm gm (x_cy X) SM 0 layM) (n := 1) (b := 0) (C := RX11) (As := [.int (xs (i + 1).toNatClampNeg)]) (st := []) (pc' := 276) (st' := [.int v]) (cells' := (c + nc)) (slots' := (s + ns)) h dL_law_273 ⟨mw_286, mw_289, mw_2, ⟨by decide +kernel, by decide +kernel⟩, by decide +kernel, Nat.le_of_ble_eq_true rfl, Nat.le_of_ble_eq_true rfl, (show c + 0 ≤ 600000 by omega), (show s + 0 ≤ 7302250 by omega)⟩ mw_287 mw_288 rfl rfl rfl rfl (Nat.le_of_ble_eq_true rfl) cX rfl rfl rfl rfl (fun gx' _ => ?_)
  refine gn_swap ?_
  refine gn_aload_n (pc' := 277) h dL_law_276 rfl rfl ?_
  refine gn_sarg (pc' := 282) h hX hbl hbA (1 : Int32) rfl rfl dL_law_277 dL_law_278 dL_law_279 dL_law_280 dL_law_281 (by decide) h1 rfl ?_
  refine gn_callX (lay := layM) (q := qm) (g := gm) (S := SM) (rest := wd_ws qx gx' (x_cy X) SX' 0 layX) (n := 1) (b := 0) (C := RX12) (As := [.int (xs (i + 1).toNatClampNeg)]) (st := [.int v]) (pc' := 285) (st' := [.int v, .int v]) (cells' := (c + nc + 0)) (slots' := (s + ns + 0)) h dL_law_282 ⟨mw_290, mw_293, mw_5, ⟨by decide +kernel, by decide +kernel⟩, by decide +kernel, Nat.le_of_ble_eq_true rfl, Nat.le_of_ble_eq_true rfl, (show c + nc + 0 ≤ 600000 by omega), (show s + ns + 0 ≤ 7302250 by omega)⟩ mw_291 mw_292 rfl rfl rfl rfl (Nat.le_of_ble_eq_true rfl) cM rfl rfl rfl rfl (fun gm' _ => ?_)
  refine gn_swap ?_
  exact gn_icmp_eq (tgt := 1379) (pc' := 288) h dL_law_285 (by decide) rfl (fun _ => (K gx' gm' SX' SM' (c + nc + 0) (s + ns + 0) hR' (by omega) (by omega))) (fun q => absurd rfl q)
set_option maxHeartbeats 4000000 in
theorem law_land {X : XT} {rt : Option FieldType} (h : NC X cL_law RL 4 rt room_1) {b L : Nat} {xs : Nat → Int32} (hX : va_X b L xs (x_s X) (x_s X).heap) (hbl : b < (x_s X).heap.size) (hbA : ¬ (x_A X) b) {qx qm gx gm : Nat → Nat} {SX SM : wd_W} {c s : Nat} {i : Int32} (hR : RW SX SM) (hc : c + 80 ≤ 600000) (hs : s + 1000000 ≤ 7302250) (h1 : vp_in (i + 1) L) (h2 : vp_in (i + 2) L) (h3 : vp_in (i + 3) L) (h4 : vp_in (i + 4) L) (h5 : vp_in (i + 5) L) (K : LK X qx qm b i SX c s) : GN X (wd_ws qx gx (x_cy X) SX 0 layX ++ wd_ws qm gm (x_cy X) SM 0 layM) 290 [(0, .ref b), (1, .ref (qx 0)), (2, .ref (qm 0)), (3, .int i)] [] c s := by
  obtain ⟨v, SX', SM', nc, ns, cX, cM, hR', hn, hz⟩ := p_land (x_l X) (x_D X) qx gx qm gm (x_cy X) (x_z X) hR
  have hlen : lenS SX' ≤ 120000 := by
    obtain ⟨st, w, _⟩ := hR'
    exact lenS_le w
  refine gn_aload_n (pc' := 291) h dL_law_290 rfl rfl ?_
  refine gn_callX (lay := layX) (q := qx) (g := gx) (S := SX) (rest := wd_ws qm gm (x_cy X) SM 0 layM) (n := 0) (b := 0) (C := RX11) (As := []) (st := []) (pc' := 294) (st' := [.int v]) (cells' := (c + nc)) (slots' := (s + ns)) h dL_law_291 ⟨mw_294, mw_297, mw_2, ⟨by decide +kernel, by decide +kernel⟩, by decide +kernel, Nat.le_of_ble_eq_true rfl, Nat.le_of_ble_eq_true rfl, (show c + 0 ≤ 600000 by omega), (show s + 0 ≤ 7302250 by omega)⟩ mw_295 mw_296 rfl rfl rfl rfl (Nat.le_of_ble_eq_true rfl) cX rfl rfl rfl rfl (fun gx' _ => ?_)
  refine gn_swap ?_
  refine gn_aload_n (pc' := 295) h dL_law_294 rfl rfl ?_
  refine gn_callX (lay := layM) (q := qm) (g := gm) (S := SM) (rest := wd_ws qx gx' (x_cy X) SX' 0 layX) (n := 0) (b := 0) (C := RX12) (As := []) (st := [.int v]) (pc' := 298) (st' := [.int v, .int v]) (cells' := (c + nc + 0)) (slots' := (s + ns + 0)) h dL_law_295 ⟨mw_485, mw_488, mw_5, ⟨by decide +kernel, by decide +kernel⟩, by decide +kernel, Nat.le_of_ble_eq_true rfl, Nat.le_of_ble_eq_true rfl, (show c + nc + 0 ≤ 600000 by omega), (show s + ns + 0 ≤ 7302250 by omega)⟩ mw_486 mw_487 rfl rfl rfl rfl (Nat.le_of_ble_eq_true rfl) cM rfl rfl rfl rfl (fun gm' _ => ?_)
  refine gn_swap ?_
  exact gn_icmp_eq (tgt := 1379) (pc' := 301) h dL_law_298 (by decide) rfl (fun _ => (K gx' gm' SX' SM' (c + nc + 0) (s + ns + 0) hR' (by omega) (by omega))) (fun q => absurd rfl q)
set_option maxHeartbeats 4000000 in
theorem law_line {X : XT} {rt : Option FieldType} (h : NC X cL_law RL 4 rt room_1) {b L : Nat} {xs : Nat → Int32} (hX : va_X b L xs (x_s X) (x_s X).heap) (hbl : b < (x_s X).heap.size) (hbA : ¬ (x_A X) b) {qx qm gx gm : Nat → Nat} {SX SM : wd_W} {c s : Nat} {i : Int32} (hR : RW SX SM) (hc : c + 80 ≤ 600000) (hs : s + 1000000 ≤ 7302250) (h1 : vp_in (i + 1) L) (h2 : vp_in (i + 2) L) (h3 : vp_in (i + 3) L) (h4 : vp_in (i + 4) L) (h5 : vp_in (i + 5) L) (K : LK X qx qm b i SX c s) : GN X (wd_ws qx gx (x_cy X) SX 0 layX ++ wd_ws qm gm (x_cy X) SM 0 layM) 303 [(0, .ref b), (1, .ref (qx 0)), (2, .ref (qm 0)), (3, .int i)] [] c s := by
  obtain ⟨v, SX', SM', nc, ns, cX, cM, hR', hn, hz⟩ := p_line (x_l X) (x_D X) qx gx qm gm (x_cy X) (x_z X) hR (xs (i + 1).toNatClampNeg) (xs (i + 2).toNatClampNeg)
  have hlen : lenS SX' ≤ 120000 := by
    obtain ⟨st, w, _⟩ := hR'
    exact lenS_le w
  refine gn_aload_n (pc' := 304) h dL_law_303 rfl rfl ?_
  refine gn_sarg (pc' := 309) h hX hbl hbA (1 : Int32) rfl rfl dL_law_304 dL_law_305 dL_law_306 dL_law_307 dL_law_308 (by decide) h1 rfl ?_
  refine gn_sarg (pc' := 314) h hX hbl hbA (2 : Int32) rfl rfl dL_law_309 dL_law_310 dL_law_311 dL_law_312 dL_law_313 (by decide) h2 rfl ?_
  refine gn_callX (lay := layX) (q := qx) (g := gx) (S := SX) (rest := wd_ws qm gm (x_cy X) SM 0 layM) (n := 2) (b := 0) (C := RX11) (As := [.int (xs (i + 1).toNatClampNeg), .int (xs (i + 2).toNatClampNeg)]) (st := []) (pc' := 317) (st' := [.int v]) (cells' := (c + nc)) (slots' := (s + ns)) h dL_law_314 ⟨mw_558, mw_561, mw_2, ⟨by decide +kernel, by decide +kernel⟩, by decide +kernel, Nat.le_of_ble_eq_true rfl, Nat.le_of_ble_eq_true rfl, (show c + 0 ≤ 600000 by omega), (show s + 0 ≤ 7302250 by omega)⟩ mw_559 mw_560 rfl rfl rfl rfl (Nat.le_of_ble_eq_true rfl) cX rfl rfl rfl rfl (fun gx' _ => ?_)
  refine gn_swap ?_
  refine gn_aload_n (pc' := 318) h dL_law_317 rfl rfl ?_
  refine gn_sarg (pc' := 323) h hX hbl hbA (1 : Int32) rfl rfl dL_law_318 dL_law_319 dL_law_320 dL_law_321 dL_law_322 (by decide) h1 rfl ?_
  refine gn_sarg (pc' := 328) h hX hbl hbA (2 : Int32) rfl rfl dL_law_323 dL_law_324 dL_law_325 dL_law_326 dL_law_327 (by decide) h2 rfl ?_
  refine gn_callX (lay := layM) (q := qm) (g := gm) (S := SM) (rest := wd_ws qx gx' (x_cy X) SX' 0 layX) (n := 2) (b := 0) (C := RX12) (As := [.int (xs (i + 1).toNatClampNeg), .int (xs (i + 2).toNatClampNeg)]) (st := [.int v]) (pc' := 331) (st' := [.int v, .int v]) (cells' := (c + nc + 0)) (slots' := (s + ns + 0)) h dL_law_328 ⟨mw_573, mw_576, mw_5, ⟨by decide +kernel, by decide +kernel⟩, by decide +kernel, Nat.le_of_ble_eq_true rfl, Nat.le_of_ble_eq_true rfl, (show c + nc + 0 ≤ 600000 by omega), (show s + ns + 0 ≤ 7302250 by omega)⟩ mw_574 mw_575 rfl rfl rfl rfl (Nat.le_of_ble_eq_true rfl) cM rfl rfl rfl rfl (fun gm' _ => ?_)
  refine gn_swap ?_
  exact gn_icmp_eq (tgt := 1379) (pc' := 334) h dL_law_331 (by decide) rfl (fun _ => (K gx' gm' SX' SM' (c + nc + 0) (s + ns + 0) hR' (by omega) (by omega))) (fun q => absurd rfl q)
set_option maxHeartbeats 4000000 in
theorem law_place {X : XT} {rt : Option FieldType} (h : NC X cL_law RL 4 rt room_1) {b L : Nat} {xs : Nat → Int32} (hX : va_X b L xs (x_s X) (x_s X).heap) (hbl : b < (x_s X).heap.size) (hbA : ¬ (x_A X) b) {qx qm gx gm : Nat → Nat} {SX SM : wd_W} {c s : Nat} {i : Int32} (hR : RW SX SM) (hc : c + 80 ≤ 600000) (hs : s + 1000000 ≤ 7302250) (h1 : vp_in (i + 1) L) (h2 : vp_in (i + 2) L) (h3 : vp_in (i + 3) L) (h4 : vp_in (i + 4) L) (h5 : vp_in (i + 5) L) (K : LK X qx qm b i SX c s) : GN X (wd_ws qx gx (x_cy X) SX 0 layX ++ wd_ws qm gm (x_cy X) SM 0 layM) 336 [(0, .ref b), (1, .ref (qx 0)), (2, .ref (qm 0)), (3, .int i)] [] c s := by
  obtain ⟨v, SX', SM', nc, ns, cX, cM, hR', hn, hz⟩ := p_place (x_l X) (x_D X) qx gx qm gm (x_cy X) (x_z X) hR (xs (i + 1).toNatClampNeg) (xs (i + 2).toNatClampNeg)
  have hlen : lenS SX' ≤ 120000 := by
    obtain ⟨st, w, _⟩ := hR'
    exact lenS_le w
  refine gn_aload_n (pc' := 337) h dL_law_336 rfl rfl ?_
  refine gn_sarg (pc' := 342) h hX hbl hbA (1 : Int32) rfl rfl dL_law_337 dL_law_338 dL_law_339 dL_law_340 dL_law_341 (by decide) h1 rfl ?_
  refine gn_sarg (pc' := 347) h hX hbl hbA (2 : Int32) rfl rfl dL_law_342 dL_law_343 dL_law_344 dL_law_345 dL_law_346 (by decide) h2 rfl ?_
  refine gn_callX (lay := layX) (q := qx) (g := gx) (S := SX) (rest := wd_ws qm gm (x_cy X) SM 0 layM) (n := 2) (b := 0) (C := RX11) (As := [.int (xs (i + 1).toNatClampNeg), .int (xs (i + 2).toNatClampNeg)]) (st := []) (pc' := 350) (st' := [.int v]) (cells' := (c + nc)) (slots' := (s + ns)) h dL_law_347 ⟨mw_577, mw_580, mw_2, ⟨by decide +kernel, by decide +kernel⟩, by decide +kernel, Nat.le_of_ble_eq_true rfl, Nat.le_of_ble_eq_true rfl, (show c + 0 ≤ 600000 by omega), (show s + 0 ≤ 7302250 by omega)⟩ mw_578 mw_579 rfl rfl rfl rfl (Nat.le_of_ble_eq_true rfl) cX rfl rfl rfl rfl (fun gx' _ => ?_)
  refine gn_swap ?_
  refine gn_aload_n (pc' := 351) h dL_law_350 rfl rfl ?_
  refine gn_sarg (pc' := 356) h hX hbl hbA (1 : Int32) rfl rfl dL_law_351 dL_law_352 dL_law_353 dL_law_354 dL_law_355 (by decide) h1 rfl ?_
  refine gn_sarg (pc' := 361) h hX hbl hbA (2 : Int32) rfl rfl dL_law_356 dL_law_357 dL_law_358 dL_law_359 dL_law_360 (by decide) h2 rfl ?_
  refine gn_callX (lay := layM) (q := qm) (g := gm) (S := SM) (rest := wd_ws qx gx' (x_cy X) SX' 0 layX) (n := 2) (b := 0) (C := RX12) (As := [.int (xs (i + 1).toNatClampNeg), .int (xs (i + 2).toNatClampNeg)]) (st := [.int v]) (pc' := 364) (st' := [.int v, .int v]) (cells' := (c + nc + 0)) (slots' := (s + ns + 0)) h dL_law_361 ⟨mw_585, mw_588, mw_5, ⟨by decide +kernel, by decide +kernel⟩, by decide +kernel, Nat.le_of_ble_eq_true rfl, Nat.le_of_ble_eq_true rfl, (show c + nc + 0 ≤ 600000 by omega), (show s + ns + 0 ≤ 7302250 by omega)⟩ mw_586 mw_587 rfl rfl rfl rfl (Nat.le_of_ble_eq_true rfl) cM rfl rfl rfl rfl (fun gm' _ => ?_)
  refine gn_swap ?_
  exact gn_icmp_eq (tgt := 1379) (pc' := 367) h dL_law_364 (by decide) rfl (fun _ => (K gx' gm' SX' SM' (c + nc + 0) (s + ns + 0) hR' (by omega) (by omega))) (fun q => absurd rfl q)
set_option maxHeartbeats 4000000 in
theorem law_so {X : XT} {rt : Option FieldType} (h : NC X cL_law RL 4 rt room_1) {b L : Nat} {xs : Nat → Int32} (hX : va_X b L xs (x_s X) (x_s X).heap) (hbl : b < (x_s X).heap.size) (hbA : ¬ (x_A X) b) {qx qm gx gm : Nat → Nat} {SX SM : wd_W} {c s : Nat} {i : Int32} (hR : RW SX SM) (hc : c + 80 ≤ 600000) (hs : s + 1000000 ≤ 7302250) (h1 : vp_in (i + 1) L) (h2 : vp_in (i + 2) L) (h3 : vp_in (i + 3) L) (h4 : vp_in (i + 4) L) (h5 : vp_in (i + 5) L) (K : LK X qx qm b i SX c s) : GN X (wd_ws qx gx (x_cy X) SX 0 layX ++ wd_ws qm gm (x_cy X) SM 0 layM) 369 [(0, .ref b), (1, .ref (qx 0)), (2, .ref (qm 0)), (3, .int i)] [] c s := by
  obtain ⟨v, SX', SM', nc, ns, cX, cM, hR', hn, hz⟩ := p_so (x_l X) (x_D X) qx gx qm gm (x_cy X) (x_z X) hR (xs (i + 1).toNatClampNeg)
  have hlen : lenS SX' ≤ 120000 := by
    obtain ⟨st, w, _⟩ := hR'
    exact lenS_le w
  refine gn_aload_n (pc' := 370) h dL_law_369 rfl rfl ?_
  refine gn_sarg (pc' := 375) h hX hbl hbA (1 : Int32) rfl rfl dL_law_370 dL_law_371 dL_law_372 dL_law_373 dL_law_374 (by decide) h1 rfl ?_
  refine gn_callX (lay := layX) (q := qx) (g := gx) (S := SX) (rest := wd_ws qm gm (x_cy X) SM 0 layM) (n := 1) (b := 0) (C := RX11) (As := [.int (xs (i + 1).toNatClampNeg)]) (st := []) (pc' := 378) (st' := [.int v]) (cells' := (c + nc)) (slots' := (s + ns)) h dL_law_375 ⟨mw_589, mw_592, mw_2, ⟨by decide +kernel, by decide +kernel⟩, by decide +kernel, Nat.le_of_ble_eq_true rfl, Nat.le_of_ble_eq_true rfl, (show c + 40 ≤ 600000 by omega), (show s + 500000 ≤ 7302250 by omega)⟩ mw_590 mw_591 rfl rfl rfl rfl (Nat.le_of_ble_eq_true rfl) cX rfl rfl rfl rfl (fun gx' _ => ?_)
  refine gn_swap ?_
  refine gn_aload_n (pc' := 379) h dL_law_378 rfl rfl ?_
  refine gn_sarg (pc' := 384) h hX hbl hbA (1 : Int32) rfl rfl dL_law_379 dL_law_380 dL_law_381 dL_law_382 dL_law_383 (by decide) h1 rfl ?_
  refine gn_callX (lay := layM) (q := qm) (g := gm) (S := SM) (rest := wd_ws qx gx' (x_cy X) SX' 0 layX) (n := 1) (b := 0) (C := RX12) (As := [.int (xs (i + 1).toNatClampNeg)]) (st := [.int v]) (pc' := 387) (st' := [.int v, .int v]) (cells' := (c + nc + 0)) (slots' := (s + ns + 0)) h dL_law_384 ⟨mw_852, mw_855, mw_5, ⟨by decide +kernel, by decide +kernel⟩, by decide +kernel, Nat.le_of_ble_eq_true rfl, Nat.le_of_ble_eq_true rfl, (show c + nc + 0 ≤ 600000 by omega), (show s + ns + 0 ≤ 7302250 by omega)⟩ mw_853 mw_854 rfl rfl rfl rfl (Nat.le_of_ble_eq_true rfl) cM rfl rfl rfl rfl (fun gm' _ => ?_)
  refine gn_swap ?_
  exact gn_icmp_eq (tgt := 1379) (pc' := 390) h dL_law_387 (by decide) rfl (fun _ => (K gx' gm' SX' SM' (c + nc + 0) (s + ns + 0) hR' (by omega) (by omega))) (fun q => absurd rfl q)
set_option maxHeartbeats 4000000 in
theorem law_chance {X : XT} {rt : Option FieldType} (h : NC X cL_law RL 4 rt room_1) {b L : Nat} {xs : Nat → Int32} (hX : va_X b L xs (x_s X) (x_s X).heap) (hbl : b < (x_s X).heap.size) (hbA : ¬ (x_A X) b) {qx qm gx gm : Nat → Nat} {SX SM : wd_W} {c s : Nat} {i : Int32} (hR : RW SX SM) (hc : c + 80 ≤ 600000) (hs : s + 1000000 ≤ 7302250) (h1 : vp_in (i + 1) L) (h2 : vp_in (i + 2) L) (h3 : vp_in (i + 3) L) (h4 : vp_in (i + 4) L) (h5 : vp_in (i + 5) L) (K : LK X qx qm b i SX c s) : GN X (wd_ws qx gx (x_cy X) SX 0 layX ++ wd_ws qm gm (x_cy X) SM 0 layM) 392 [(0, .ref b), (1, .ref (qx 0)), (2, .ref (qm 0)), (3, .int i)] [] c s := by
  obtain ⟨v, SX', SM', nc, ns, cX, cM, hR', hn, hz⟩ := p_chance (x_l X) (x_D X) qx gx qm gm (x_cy X) (x_z X) hR (xs (i + 1).toNatClampNeg)
  have hlen : lenS SX' ≤ 120000 := by
    obtain ⟨st, w, _⟩ := hR'
    exact lenS_le w
  refine gn_aload_n (pc' := 393) h dL_law_392 rfl rfl ?_
  refine gn_sarg (pc' := 398) h hX hbl hbA (1 : Int32) rfl rfl dL_law_393 dL_law_394 dL_law_395 dL_law_396 dL_law_397 (by decide) h1 rfl ?_
  refine gn_callX (lay := layX) (q := qx) (g := gx) (S := SX) (rest := wd_ws qm gm (x_cy X) SM 0 layM) (n := 1) (b := 0) (C := RX11) (As := [.int (xs (i + 1).toNatClampNeg)]) (st := []) (pc' := 401) (st' := [.long v]) (cells' := (c + nc)) (slots' := (s + ns)) h dL_law_398 ⟨mw_905, mw_908, mw_2, ⟨by decide +kernel, by decide +kernel⟩, by decide +kernel, Nat.le_of_ble_eq_true rfl, Nat.le_of_ble_eq_true rfl, (show c + 40 ≤ 600000 by omega), (show s + 500000 ≤ 7302250 by omega)⟩ mw_906 mw_907 rfl rfl rfl rfl (Nat.le_of_ble_eq_true rfl) cX rfl rfl rfl rfl (fun gx' _ => ?_)
  refine gn_swap ?_
  refine gn_aload_n (pc' := 402) h dL_law_401 rfl rfl ?_
  refine gn_sarg (pc' := 407) h hX hbl hbA (1 : Int32) rfl rfl dL_law_402 dL_law_403 dL_law_404 dL_law_405 dL_law_406 (by decide) h1 rfl ?_
  refine gn_callX (lay := layM) (q := qm) (g := gm) (S := SM) (rest := wd_ws qx gx' (x_cy X) SX' 0 layX) (n := 1) (b := 0) (C := RX12) (As := [.int (xs (i + 1).toNatClampNeg)]) (st := [.long v]) (pc' := 410) (st' := [.long v, .long v]) (cells' := (c + nc + 0)) (slots' := (s + ns + 0)) h dL_law_407 ⟨mw_918, mw_921, mw_5, ⟨by decide +kernel, by decide +kernel⟩, by decide +kernel, Nat.le_of_ble_eq_true rfl, Nat.le_of_ble_eq_true rfl, (show c + nc + 0 ≤ 600000 by omega), (show s + ns + 0 ≤ 7302250 by omega)⟩ mw_919 mw_920 rfl rfl rfl rfl (Nat.le_of_ble_eq_true rfl) cM rfl rfl rfl rfl (fun gm' _ => ?_)
  refine gn_swap ?_
  refine gn_lcmp (pc' := 411) h dL_law_410 rfl ?_
  exact gn_if_eq (tgt := 1379) (pc' := 414) h dL_law_411 (by decide) rfl (fun _ => (K gx' gm' SX' SM' (c + nc + 0) (s + ns + 0) hR' (by omega) (by omega))) (fun q => absurd ((lg_cmp_eq v v).mpr rfl) q)
set_option maxHeartbeats 4000000 in
theorem law_sure {X : XT} {rt : Option FieldType} (h : NC X cL_law RL 4 rt room_1) {b L : Nat} {xs : Nat → Int32} (hX : va_X b L xs (x_s X) (x_s X).heap) (hbl : b < (x_s X).heap.size) (hbA : ¬ (x_A X) b) {qx qm gx gm : Nat → Nat} {SX SM : wd_W} {c s : Nat} {i : Int32} (hR : RW SX SM) (hc : c + 80 ≤ 600000) (hs : s + 1000000 ≤ 7302250) (h1 : vp_in (i + 1) L) (h2 : vp_in (i + 2) L) (h3 : vp_in (i + 3) L) (h4 : vp_in (i + 4) L) (h5 : vp_in (i + 5) L) (K : LK X qx qm b i SX c s) : GN X (wd_ws qx gx (x_cy X) SX 0 layX ++ wd_ws qm gm (x_cy X) SM 0 layM) 416 [(0, .ref b), (1, .ref (qx 0)), (2, .ref (qm 0)), (3, .int i)] [] c s := by
  obtain ⟨v, SX', SM', nc, ns, cX, cM, hR', hn, hz⟩ := p_sure (x_l X) (x_D X) qx gx qm gm (x_cy X) (x_z X) hR (xs (i + 1).toNatClampNeg) (nI (b2n (decide (¬ xs (i + 2).toNatClampNeg = 0))))
  have hlen : lenS SX' ≤ 120000 := by
    obtain ⟨st, w, _⟩ := hR'
    exact lenS_le w
  refine gn_aload_n (pc' := 417) h dL_law_416 rfl rfl ?_
  refine gn_sarg (pc' := 422) h hX hbl hbA (1 : Int32) rfl rfl dL_law_417 dL_law_418 dL_law_419 dL_law_420 dL_law_421 (by decide) h1 rfl ?_
  refine gn_sarg (pc' := 427) h hX hbl hbA (2 : Int32) rfl rfl dL_law_422 dL_law_423 dL_law_424 dL_law_425 dL_law_426 (by decide) h2 rfl ?_
  refine gn_sbool (pc' := 435) h dL_law_427 dL_law_430 dL_law_431 dL_law_434 rfl ?_
  refine gn_callX (lay := layX) (q := qx) (g := gx) (S := SX) (rest := wd_ws qm gm (x_cy X) SM 0 layM) (n := 2) (b := 0) (C := RX11) (As := [.int (xs (i + 1).toNatClampNeg), .int (nI (b2n (decide (¬ xs (i + 2).toNatClampNeg = 0))))]) (st := []) (pc' := 438) (st' := [.long v]) (cells' := (c + nc)) (slots' := (s + ns)) h dL_law_435 ⟨mw_939, mw_942, mw_2, ⟨by decide +kernel, by decide +kernel⟩, by decide +kernel, Nat.le_of_ble_eq_true rfl, Nat.le_of_ble_eq_true rfl, (show c + 40 ≤ 600000 by omega), (show s + 500000 ≤ 7302250 by omega)⟩ mw_940 mw_941 rfl rfl rfl rfl (Nat.le_of_ble_eq_true rfl) cX rfl rfl rfl rfl (fun gx' _ => ?_)
  refine gn_swap ?_
  refine gn_aload_n (pc' := 439) h dL_law_438 rfl rfl ?_
  refine gn_sarg (pc' := 444) h hX hbl hbA (1 : Int32) rfl rfl dL_law_439 dL_law_440 dL_law_441 dL_law_442 dL_law_443 (by decide) h1 rfl ?_
  refine gn_sarg (pc' := 449) h hX hbl hbA (2 : Int32) rfl rfl dL_law_444 dL_law_445 dL_law_446 dL_law_447 dL_law_448 (by decide) h2 rfl ?_
  refine gn_sbool (pc' := 457) h dL_law_449 dL_law_452 dL_law_453 dL_law_456 rfl ?_
  refine gn_callX (lay := layM) (q := qm) (g := gm) (S := SM) (rest := wd_ws qx gx' (x_cy X) SX' 0 layX) (n := 2) (b := 0) (C := RX12) (As := [.int (xs (i + 1).toNatClampNeg), .int (nI (b2n (decide (¬ xs (i + 2).toNatClampNeg = 0))))]) (st := [.long v]) (pc' := 460) (st' := [.long v, .long v]) (cells' := (c + nc + 0)) (slots' := (s + ns + 0)) h dL_law_457 ⟨mw_952, mw_955, mw_5, ⟨by decide +kernel, by decide +kernel⟩, by decide +kernel, Nat.le_of_ble_eq_true rfl, Nat.le_of_ble_eq_true rfl, (show c + nc + 0 ≤ 600000 by omega), (show s + ns + 0 ≤ 7302250 by omega)⟩ mw_953 mw_954 rfl rfl rfl rfl (Nat.le_of_ble_eq_true rfl) cM rfl rfl rfl rfl (fun gm' _ => ?_)
  refine gn_swap ?_
  refine gn_lcmp (pc' := 461) h dL_law_460 rfl ?_
  exact gn_if_eq (tgt := 1379) (pc' := 464) h dL_law_461 (by decide) rfl (fun _ => (K gx' gm' SX' SM' (c + nc + 0) (s + ns + 0) hR' (by omega) (by omega))) (fun q => absurd ((lg_cmp_eq v v).mpr rfl) q)
set_option maxHeartbeats 4000000 in
theorem law_matters {X : XT} {rt : Option FieldType} (h : NC X cL_law RL 4 rt room_1) {b L : Nat} {xs : Nat → Int32} (hX : va_X b L xs (x_s X) (x_s X).heap) (hbl : b < (x_s X).heap.size) (hbA : ¬ (x_A X) b) {qx qm gx gm : Nat → Nat} {SX SM : wd_W} {c s : Nat} {i : Int32} (hR : RW SX SM) (hc : c + 80 ≤ 600000) (hs : s + 1000000 ≤ 7302250) (h1 : vp_in (i + 1) L) (h2 : vp_in (i + 2) L) (h3 : vp_in (i + 3) L) (h4 : vp_in (i + 4) L) (h5 : vp_in (i + 5) L) (K : LK X qx qm b i SX c s) : GN X (wd_ws qx gx (x_cy X) SX 0 layX ++ wd_ws qm gm (x_cy X) SM 0 layM) 466 [(0, .ref b), (1, .ref (qx 0)), (2, .ref (qm 0)), (3, .int i)] [] c s := by
  obtain ⟨v, SX', SM', nc, ns, cX, cM, hR', hn, hz⟩ := p_matters (x_l X) (x_D X) qx gx qm gm (x_cy X) (x_z X) hR (xs (i + 1).toNatClampNeg) (xs (i + 2).toNatClampNeg)
  have hlen : lenS SX' ≤ 120000 := by
    obtain ⟨st, w, _⟩ := hR'
    exact lenS_le w
  refine gn_aload_n (pc' := 467) h dL_law_466 rfl rfl ?_
  refine gn_sarg (pc' := 472) h hX hbl hbA (1 : Int32) rfl rfl dL_law_467 dL_law_468 dL_law_469 dL_law_470 dL_law_471 (by decide) h1 rfl ?_
  refine gn_sarg (pc' := 477) h hX hbl hbA (2 : Int32) rfl rfl dL_law_472 dL_law_473 dL_law_474 dL_law_475 dL_law_476 (by decide) h2 rfl ?_
  refine gn_callX (lay := layX) (q := qx) (g := gx) (S := SX) (rest := wd_ws qm gm (x_cy X) SM 0 layM) (n := 2) (b := 0) (C := RX11) (As := [.int (xs (i + 1).toNatClampNeg), .int (xs (i + 2).toNatClampNeg)]) (st := []) (pc' := 480) (st' := [.long v]) (cells' := (c + nc)) (slots' := (s + ns)) h dL_law_477 ⟨mw_964, mw_967, mw_2, ⟨by decide +kernel, by decide +kernel⟩, by decide +kernel, Nat.le_of_ble_eq_true rfl, Nat.le_of_ble_eq_true rfl, (show c + 40 ≤ 600000 by omega), (show s + 500000 ≤ 7302250 by omega)⟩ mw_965 mw_966 rfl rfl rfl rfl (Nat.le_of_ble_eq_true rfl) cX rfl rfl rfl rfl (fun gx' _ => ?_)
  refine gn_swap ?_
  refine gn_aload_n (pc' := 481) h dL_law_480 rfl rfl ?_
  refine gn_sarg (pc' := 486) h hX hbl hbA (1 : Int32) rfl rfl dL_law_481 dL_law_482 dL_law_483 dL_law_484 dL_law_485 (by decide) h1 rfl ?_
  refine gn_sarg (pc' := 491) h hX hbl hbA (2 : Int32) rfl rfl dL_law_486 dL_law_487 dL_law_488 dL_law_489 dL_law_490 (by decide) h2 rfl ?_
  refine gn_callX (lay := layM) (q := qm) (g := gm) (S := SM) (rest := wd_ws qx gx' (x_cy X) SX' 0 layX) (n := 2) (b := 0) (C := RX12) (As := [.int (xs (i + 1).toNatClampNeg), .int (xs (i + 2).toNatClampNeg)]) (st := [.long v]) (pc' := 494) (st' := [.long v, .long v]) (cells' := (c + nc + 0)) (slots' := (s + ns + 0)) h dL_law_491 ⟨mw_981, mw_984, mw_5, ⟨by decide +kernel, by decide +kernel⟩, by decide +kernel, Nat.le_of_ble_eq_true rfl, Nat.le_of_ble_eq_true rfl, (show c + nc + 0 ≤ 600000 by omega), (show s + ns + 0 ≤ 7302250 by omega)⟩ mw_982 mw_983 rfl rfl rfl rfl (Nat.le_of_ble_eq_true rfl) cM rfl rfl rfl rfl (fun gm' _ => ?_)
  refine gn_swap ?_
  refine gn_lcmp (pc' := 495) h dL_law_494 rfl ?_
  exact gn_if_eq (tgt := 1379) (pc' := 498) h dL_law_495 (by decide) rfl (fun _ => (K gx' gm' SX' SM' (c + nc + 0) (s + ns + 0) hR' (by omega) (by omega))) (fun q => absurd ((lg_cmp_eq v v).mpr rfl) q)
set_option maxHeartbeats 4000000 in
theorem law_most {X : XT} {rt : Option FieldType} (h : NC X cL_law RL 4 rt room_1) {b L : Nat} {xs : Nat → Int32} (hX : va_X b L xs (x_s X) (x_s X).heap) (hbl : b < (x_s X).heap.size) (hbA : ¬ (x_A X) b) {qx qm gx gm : Nat → Nat} {SX SM : wd_W} {c s : Nat} {i : Int32} (hR : RW SX SM) (hc : c + 80 ≤ 600000) (hs : s + 1000000 ≤ 7302250) (h1 : vp_in (i + 1) L) (h2 : vp_in (i + 2) L) (h3 : vp_in (i + 3) L) (h4 : vp_in (i + 4) L) (h5 : vp_in (i + 5) L) (K : LK X qx qm b i SX c s) : GN X (wd_ws qx gx (x_cy X) SX 0 layX ++ wd_ws qm gm (x_cy X) SM 0 layM) 500 [(0, .ref b), (1, .ref (qx 0)), (2, .ref (qm 0)), (3, .int i)] [] c s := by
  obtain ⟨v, SX', SM', nc, ns, cX, cM, hR', hn, hz⟩ := p_most (x_l X) (x_D X) qx gx qm gm (x_cy X) (x_z X) hR
  have hlen : lenS SX' ≤ 120000 := by
    obtain ⟨st, w, _⟩ := hR'
    exact lenS_le w
  refine gn_aload_n (pc' := 501) h dL_law_500 rfl rfl ?_
  refine gn_callX (lay := layX) (q := qx) (g := gx) (S := SX) (rest := wd_ws qm gm (x_cy X) SM 0 layM) (n := 0) (b := 0) (C := RX11) (As := []) (st := []) (pc' := 504) (st' := [.int v]) (cells' := (c + nc)) (slots' := (s + ns)) h dL_law_501 ⟨mw_993, mw_996, mw_2, ⟨by decide +kernel, by decide +kernel⟩, by decide +kernel, Nat.le_of_ble_eq_true rfl, Nat.le_of_ble_eq_true rfl, (show c + 40 ≤ 600000 by omega), (show s + 500000 ≤ 7302250 by omega)⟩ mw_994 mw_995 rfl rfl rfl rfl (Nat.le_of_ble_eq_true rfl) cX rfl rfl rfl rfl (fun gx' _ => ?_)
  refine gn_swap ?_
  refine gn_aload_n (pc' := 505) h dL_law_504 rfl rfl ?_
  refine gn_callX (lay := layM) (q := qm) (g := gm) (S := SM) (rest := wd_ws qx gx' (x_cy X) SX' 0 layX) (n := 0) (b := 0) (C := RX12) (As := []) (st := [.int v]) (pc' := 508) (st' := [.int v, .int v]) (cells' := (c + nc + 0)) (slots' := (s + ns + 0)) h dL_law_505 ⟨mw_997, mw_1000, mw_5, ⟨by decide +kernel, by decide +kernel⟩, by decide +kernel, Nat.le_of_ble_eq_true rfl, Nat.le_of_ble_eq_true rfl, (show c + nc + 0 ≤ 600000 by omega), (show s + ns + 0 ≤ 7302250 by omega)⟩ mw_998 mw_999 rfl rfl rfl rfl (Nat.le_of_ble_eq_true rfl) cM rfl rfl rfl rfl (fun gm' _ => ?_)
  refine gn_swap ?_
  exact gn_icmp_eq (tgt := 1379) (pc' := 511) h dL_law_508 (by decide) rfl (fun _ => (K gx' gm' SX' SM' (c + nc + 0) (s + ns + 0) hR' (by omega) (by omega))) (fun q => absurd rfl q)
set_option maxHeartbeats 4000000 in
theorem law_useless {X : XT} {rt : Option FieldType} (h : NC X cL_law RL 4 rt room_1) {b L : Nat} {xs : Nat → Int32} (hX : va_X b L xs (x_s X) (x_s X).heap) (hbl : b < (x_s X).heap.size) (hbA : ¬ (x_A X) b) {qx qm gx gm : Nat → Nat} {SX SM : wd_W} {c s : Nat} {i : Int32} (hR : RW SX SM) (hc : c + 80 ≤ 600000) (hs : s + 1000000 ≤ 7302250) (h1 : vp_in (i + 1) L) (h2 : vp_in (i + 2) L) (h3 : vp_in (i + 3) L) (h4 : vp_in (i + 4) L) (h5 : vp_in (i + 5) L) (K : LK X qx qm b i SX c s) : GN X (wd_ws qx gx (x_cy X) SX 0 layX ++ wd_ws qm gm (x_cy X) SM 0 layM) 513 [(0, .ref b), (1, .ref (qx 0)), (2, .ref (qm 0)), (3, .int i)] [] c s := by
  obtain ⟨v, SX', SM', nc, ns, cX, cM, hR', hn, hz⟩ := p_useless (x_l X) (x_D X) qx gx qm gm (x_cy X) (x_z X) hR
  have hlen : lenS SX' ≤ 120000 := by
    obtain ⟨st, w, _⟩ := hR'
    exact lenS_le w
  refine gn_aload_n (pc' := 514) h dL_law_513 rfl rfl ?_
  refine gn_callX (lay := layX) (q := qx) (g := gx) (S := SX) (rest := wd_ws qm gm (x_cy X) SM 0 layM) (n := 0) (b := 0) (C := RX11) (As := []) (st := []) (pc' := 517) (st' := [.int v]) (cells' := (c + nc)) (slots' := (s + ns)) h dL_law_514 ⟨mw_1001, mw_1004, mw_2, ⟨by decide +kernel, by decide +kernel⟩, by decide +kernel, Nat.le_of_ble_eq_true rfl, Nat.le_of_ble_eq_true rfl, (show c + 40 ≤ 600000 by omega), (show s + 500000 ≤ 7302250 by omega)⟩ mw_1002 mw_1003 rfl rfl rfl rfl (Nat.le_of_ble_eq_true rfl) cX rfl rfl rfl rfl (fun gx' _ => ?_)
  refine gn_swap ?_
  refine gn_aload_n (pc' := 518) h dL_law_517 rfl rfl ?_
  refine gn_callX (lay := layM) (q := qm) (g := gm) (S := SM) (rest := wd_ws qx gx' (x_cy X) SX' 0 layX) (n := 0) (b := 0) (C := RX12) (As := []) (st := [.int v]) (pc' := 521) (st' := [.int v, .int v]) (cells' := (c + nc + 0)) (slots' := (s + ns + 0)) h dL_law_518 ⟨mw_1005, mw_1008, mw_5, ⟨by decide +kernel, by decide +kernel⟩, by decide +kernel, Nat.le_of_ble_eq_true rfl, Nat.le_of_ble_eq_true rfl, (show c + nc + 0 ≤ 600000 by omega), (show s + ns + 0 ≤ 7302250 by omega)⟩ mw_1006 mw_1007 rfl rfl rfl rfl (Nat.le_of_ble_eq_true rfl) cM rfl rfl rfl rfl (fun gm' _ => ?_)
  refine gn_swap ?_
  exact gn_icmp_eq (tgt := 1379) (pc' := 524) h dL_law_521 (by decide) rfl (fun _ => (K gx' gm' SX' SM' (c + nc + 0) (s + ns + 0) hR' (by omega) (by omega))) (fun q => absurd rfl q)
set_option maxHeartbeats 4000000 in
theorem law_ways {X : XT} {rt : Option FieldType} (h : NC X cL_law RL 4 rt room_1) {b L : Nat} {xs : Nat → Int32} (hX : va_X b L xs (x_s X) (x_s X).heap) (hbl : b < (x_s X).heap.size) (hbA : ¬ (x_A X) b) {qx qm gx gm : Nat → Nat} {SX SM : wd_W} {c s : Nat} {i : Int32} (hR : RW SX SM) (hc : c + 80 ≤ 600000) (hs : s + 1000000 ≤ 7302250) (h1 : vp_in (i + 1) L) (h2 : vp_in (i + 2) L) (h3 : vp_in (i + 3) L) (h4 : vp_in (i + 4) L) (h5 : vp_in (i + 5) L) (K : LK X qx qm b i SX c s) : GN X (wd_ws qx gx (x_cy X) SX 0 layX ++ wd_ws qm gm (x_cy X) SM 0 layM) 526 [(0, .ref b), (1, .ref (qx 0)), (2, .ref (qm 0)), (3, .int i)] [] c s := by
  obtain ⟨v, SX', SM', nc, ns, cX, cM, hR', hn, hz⟩ := p_ways (x_l X) (x_D X) qx gx qm gm (x_cy X) (x_z X) hR (decide (¬ xs (i + 1).toNatClampNeg = 0))
  have hlen : lenS SX' ≤ 120000 := by
    obtain ⟨st, w, _⟩ := hR'
    exact lenS_le w
  refine gn_aload_n (pc' := 527) h dL_law_526 rfl rfl ?_
  refine gn_sarg (pc' := 532) h hX hbl hbA (1 : Int32) rfl rfl dL_law_527 dL_law_528 dL_law_529 dL_law_530 dL_law_531 (by decide) h1 rfl ?_
  refine gn_sbool (pc' := 540) h dL_law_532 dL_law_535 dL_law_536 dL_law_539 rfl ?_
  refine gn_callX (lay := layX) (q := qx) (g := gx) (S := SX) (rest := wd_ws qm gm (x_cy X) SM 0 layM) (n := 1) (b := 0) (C := RX11) (As := [.int (nI (b2n (decide (¬ xs (i + 1).toNatClampNeg = 0))))]) (st := []) (pc' := 543) (st' := [.int v]) (cells' := (c + nc)) (slots' := (s + ns)) h dL_law_540 ⟨mw_1009, mw_1012, mw_2, ⟨by decide +kernel, by decide +kernel⟩, by decide +kernel, Nat.le_of_ble_eq_true rfl, Nat.le_of_ble_eq_true rfl, (show c + 40 ≤ 600000 by omega), (show s + 500000 ≤ 7302250 by omega)⟩ mw_1010 mw_1011 rfl rfl rfl rfl (Nat.le_of_ble_eq_true rfl) cX rfl rfl rfl rfl (fun gx' _ => ?_)
  refine gn_swap ?_
  refine gn_aload_n (pc' := 544) h dL_law_543 rfl rfl ?_
  refine gn_sarg (pc' := 549) h hX hbl hbA (1 : Int32) rfl rfl dL_law_544 dL_law_545 dL_law_546 dL_law_547 dL_law_548 (by decide) h1 rfl ?_
  refine gn_sbool (pc' := 557) h dL_law_549 dL_law_552 dL_law_553 dL_law_556 rfl ?_
  refine gn_callX (lay := layM) (q := qm) (g := gm) (S := SM) (rest := wd_ws qx gx' (x_cy X) SX' 0 layX) (n := 1) (b := 0) (C := RX12) (As := [.int (nI (b2n (decide (¬ xs (i + 1).toNatClampNeg = 0))))]) (st := [.int v]) (pc' := 560) (st' := [.int v, .int v]) (cells' := (c + nc + 0)) (slots' := (s + ns + 0)) h dL_law_557 ⟨mw_1018, mw_1021, mw_5, ⟨by decide +kernel, by decide +kernel⟩, by decide +kernel, Nat.le_of_ble_eq_true rfl, Nat.le_of_ble_eq_true rfl, (show c + nc + 0 ≤ 600000 by omega), (show s + ns + 0 ≤ 7302250 by omega)⟩ mw_1019 mw_1020 rfl rfl rfl rfl (Nat.le_of_ble_eq_true rfl) cM rfl rfl rfl rfl (fun gm' _ => ?_)
  refine gn_swap ?_
  exact gn_icmp_eq (tgt := 1379) (pc' := 563) h dL_law_560 (by decide) rfl (fun _ => (K gx' gm' SX' SM' (c + nc + 0) (s + ns + 0) hR' (by omega) (by omega))) (fun q => absurd rfl q)
set_option maxHeartbeats 4000000 in
theorem law_way {X : XT} {rt : Option FieldType} (h : NC X cL_law RL 4 rt room_1) {b L : Nat} {xs : Nat → Int32} (hX : va_X b L xs (x_s X) (x_s X).heap) (hbl : b < (x_s X).heap.size) (hbA : ¬ (x_A X) b) {qx qm gx gm : Nat → Nat} {SX SM : wd_W} {c s : Nat} {i : Int32} (hR : RW SX SM) (hc : c + 80 ≤ 600000) (hs : s + 1000000 ≤ 7302250) (h1 : vp_in (i + 1) L) (h2 : vp_in (i + 2) L) (h3 : vp_in (i + 3) L) (h4 : vp_in (i + 4) L) (h5 : vp_in (i + 5) L) (K : LK X qx qm b i SX c s) : GN X (wd_ws qx gx (x_cy X) SX 0 layX ++ wd_ws qm gm (x_cy X) SM 0 layM) 565 [(0, .ref b), (1, .ref (qx 0)), (2, .ref (qm 0)), (3, .int i)] [] c s := by
  obtain ⟨v, SX', SM', nc, ns, cX, cM, hR', hn, hz⟩ := p_way (x_l X) (x_D X) qx gx qm gm (x_cy X) (x_z X) hR (decide (¬ xs (i + 1).toNatClampNeg = 0)) (xs (i + 2).toNatClampNeg)
  have hlen : lenS SX' ≤ 120000 := by
    obtain ⟨st, w, _⟩ := hR'
    exact lenS_le w
  refine gn_aload_n (pc' := 566) h dL_law_565 rfl rfl ?_
  refine gn_sarg (pc' := 571) h hX hbl hbA (1 : Int32) rfl rfl dL_law_566 dL_law_567 dL_law_568 dL_law_569 dL_law_570 (by decide) h1 rfl ?_
  refine gn_sbool (pc' := 579) h dL_law_571 dL_law_574 dL_law_575 dL_law_578 rfl ?_
  refine gn_sarg (pc' := 584) h hX hbl hbA (2 : Int32) rfl rfl dL_law_579 dL_law_580 dL_law_581 dL_law_582 dL_law_583 (by decide) h2 rfl ?_
  refine gn_callX (lay := layX) (q := qx) (g := gx) (S := SX) (rest := wd_ws qm gm (x_cy X) SM 0 layM) (n := 2) (b := 0) (C := RX11) (As := [.int (nI (b2n (decide (¬ xs (i + 1).toNatClampNeg = 0)))), .int (xs (i + 2).toNatClampNeg)]) (st := []) (pc' := 587) (st' := [.int v]) (cells' := (c + nc)) (slots' := (s + ns)) h dL_law_584 ⟨mw_1039, mw_1042, mw_2, ⟨by decide +kernel, by decide +kernel⟩, by decide +kernel, Nat.le_of_ble_eq_true rfl, Nat.le_of_ble_eq_true rfl, (show c + 40 ≤ 600000 by omega), (show s + 500000 ≤ 7302250 by omega)⟩ mw_1040 mw_1041 rfl rfl rfl rfl (Nat.le_of_ble_eq_true rfl) cX rfl rfl rfl rfl (fun gx' _ => ?_)
  refine gn_swap ?_
  refine gn_aload_n (pc' := 588) h dL_law_587 rfl rfl ?_
  refine gn_sarg (pc' := 593) h hX hbl hbA (1 : Int32) rfl rfl dL_law_588 dL_law_589 dL_law_590 dL_law_591 dL_law_592 (by decide) h1 rfl ?_
  refine gn_sbool (pc' := 601) h dL_law_593 dL_law_596 dL_law_597 dL_law_600 rfl ?_
  refine gn_sarg (pc' := 606) h hX hbl hbA (2 : Int32) rfl rfl dL_law_601 dL_law_602 dL_law_603 dL_law_604 dL_law_605 (by decide) h2 rfl ?_
  refine gn_callX (lay := layM) (q := qm) (g := gm) (S := SM) (rest := wd_ws qx gx' (x_cy X) SX' 0 layX) (n := 2) (b := 0) (C := RX12) (As := [.int (nI (b2n (decide (¬ xs (i + 1).toNatClampNeg = 0)))), .int (xs (i + 2).toNatClampNeg)]) (st := [.int v]) (pc' := 609) (st' := [.int v, .int v]) (cells' := (c + nc + 0)) (slots' := (s + ns + 0)) h dL_law_606 ⟨mw_1045, mw_1048, mw_5, ⟨by decide +kernel, by decide +kernel⟩, by decide +kernel, Nat.le_of_ble_eq_true rfl, Nat.le_of_ble_eq_true rfl, (show c + nc + 0 ≤ 600000 by omega), (show s + ns + 0 ≤ 7302250 by omega)⟩ mw_1046 mw_1047 rfl rfl rfl rfl (Nat.le_of_ble_eq_true rfl) cM rfl rfl rfl rfl (fun gm' _ => ?_)
  refine gn_swap ?_
  exact gn_icmp_eq (tgt := 1379) (pc' := 612) h dL_law_609 (by decide) rfl (fun _ => (K gx' gm' SX' SM' (c + nc + 0) (s + ns + 0) hR' (by omega) (by omega))) (fun q => absurd rfl q)
set_option maxHeartbeats 4000000 in
theorem law_ends {X : XT} {rt : Option FieldType} (h : NC X cL_law RL 4 rt room_1) {b L : Nat} {xs : Nat → Int32} (hX : va_X b L xs (x_s X) (x_s X).heap) (hbl : b < (x_s X).heap.size) (hbA : ¬ (x_A X) b) {qx qm gx gm : Nat → Nat} {SX SM : wd_W} {c s : Nat} {i : Int32} (hR : RW SX SM) (hc : c + 80 ≤ 600000) (hs : s + 1000000 ≤ 7302250) (h1 : vp_in (i + 1) L) (h2 : vp_in (i + 2) L) (h3 : vp_in (i + 3) L) (h4 : vp_in (i + 4) L) (h5 : vp_in (i + 5) L) (K : LK X qx qm b i SX c s) : GN X (wd_ws qx gx (x_cy X) SX 0 layX ++ wd_ws qm gm (x_cy X) SM 0 layM) 614 [(0, .ref b), (1, .ref (qx 0)), (2, .ref (qm 0)), (3, .int i)] [] c s := by
  obtain ⟨v, SX', SM', nc, ns, cX, cM, hR', hn, hz⟩ := p_ends (x_l X) (x_D X) qx gx qm gm (x_cy X) (x_z X) hR (xs (i + 1).toNatClampNeg) (xs (i + 2).toNatClampNeg)
  have hlen : lenS SX' ≤ 120000 := by
    obtain ⟨st, w, _⟩ := hR'
    exact lenS_le w
  refine gn_aload_n (pc' := 615) h dL_law_614 rfl rfl ?_
  refine gn_sarg (pc' := 620) h hX hbl hbA (1 : Int32) rfl rfl dL_law_615 dL_law_616 dL_law_617 dL_law_618 dL_law_619 (by decide) h1 rfl ?_
  refine gn_sarg (pc' := 625) h hX hbl hbA (2 : Int32) rfl rfl dL_law_620 dL_law_621 dL_law_622 dL_law_623 dL_law_624 (by decide) h2 rfl ?_
  refine gn_callX (lay := layX) (q := qx) (g := gx) (S := SX) (rest := wd_ws qm gm (x_cy X) SM 0 layM) (n := 2) (b := 0) (C := RX11) (As := [.int (xs (i + 1).toNatClampNeg), .int (xs (i + 2).toNatClampNeg)]) (st := []) (pc' := 628) (st' := [.long v]) (cells' := (c + nc)) (slots' := (s + ns)) h dL_law_625 ⟨mw_1049, mw_1052, mw_2, ⟨by decide +kernel, by decide +kernel⟩, by decide +kernel, Nat.le_of_ble_eq_true rfl, Nat.le_of_ble_eq_true rfl, (show c + 40 ≤ 600000 by omega), (show s + 500000 ≤ 7302250 by omega)⟩ mw_1050 mw_1051 rfl rfl rfl rfl (Nat.le_of_ble_eq_true rfl) cX rfl rfl rfl rfl (fun gx' _ => ?_)
  refine gn_swap ?_
  refine gn_aload_n (pc' := 629) h dL_law_628 rfl rfl ?_
  refine gn_sarg (pc' := 634) h hX hbl hbA (1 : Int32) rfl rfl dL_law_629 dL_law_630 dL_law_631 dL_law_632 dL_law_633 (by decide) h1 rfl ?_
  refine gn_sarg (pc' := 639) h hX hbl hbA (2 : Int32) rfl rfl dL_law_634 dL_law_635 dL_law_636 dL_law_637 dL_law_638 (by decide) h2 rfl ?_
  refine gn_callX (lay := layM) (q := qm) (g := gm) (S := SM) (rest := wd_ws qx gx' (x_cy X) SX' 0 layX) (n := 2) (b := 0) (C := RX12) (As := [.int (xs (i + 1).toNatClampNeg), .int (xs (i + 2).toNatClampNeg)]) (st := [.long v]) (pc' := 642) (st' := [.long v, .long v]) (cells' := (c + nc + 0)) (slots' := (s + ns + 0)) h dL_law_639 ⟨mw_1057, mw_1060, mw_5, ⟨by decide +kernel, by decide +kernel⟩, by decide +kernel, Nat.le_of_ble_eq_true rfl, Nat.le_of_ble_eq_true rfl, (show c + nc + 0 ≤ 600000 by omega), (show s + ns + 0 ≤ 7302250 by omega)⟩ mw_1058 mw_1059 rfl rfl rfl rfl (Nat.le_of_ble_eq_true rfl) cM rfl rfl rfl rfl (fun gm' _ => ?_)
  refine gn_swap ?_
  refine gn_lcmp (pc' := 643) h dL_law_642 rfl ?_
  exact gn_if_eq (tgt := 1379) (pc' := 646) h dL_law_643 (by decide) rfl (fun _ => (K gx' gm' SX' SM' (c + nc + 0) (s + ns + 0) hR' (by omega) (by omega))) (fun q => absurd ((lg_cmp_eq v v).mpr rfl) q)
set_option maxHeartbeats 4000000 in
theorem law_row {X : XT} {rt : Option FieldType} (h : NC X cL_law RL 4 rt room_1) {b L : Nat} {xs : Nat → Int32} (hX : va_X b L xs (x_s X) (x_s X).heap) (hbl : b < (x_s X).heap.size) (hbA : ¬ (x_A X) b) {qx qm gx gm : Nat → Nat} {SX SM : wd_W} {c s : Nat} {i : Int32} (hR : RW SX SM) (hc : c + 80 ≤ 600000) (hs : s + 1000000 ≤ 7302250) (h1 : vp_in (i + 1) L) (h2 : vp_in (i + 2) L) (h3 : vp_in (i + 3) L) (h4 : vp_in (i + 4) L) (h5 : vp_in (i + 5) L) (K : LK X qx qm b i SX c s) : GN X (wd_ws qx gx (x_cy X) SX 0 layX ++ wd_ws qm gm (x_cy X) SM 0 layM) 648 [(0, .ref b), (1, .ref (qx 0)), (2, .ref (qm 0)), (3, .int i)] [] c s := by
  obtain ⟨v, SX', SM', nc, ns, cX, cM, hR', hn, hz⟩ := p_row (x_l X) (x_D X) qx gx qm gm (x_cy X) (x_z X) hR (xs (i + 1).toNatClampNeg)
  have hlen : lenS SX' ≤ 120000 := by
    obtain ⟨st, w, _⟩ := hR'
    exact lenS_le w
  refine gn_aload_n (pc' := 649) h dL_law_648 rfl rfl ?_
  refine gn_sarg (pc' := 654) h hX hbl hbA (1 : Int32) rfl rfl dL_law_649 dL_law_650 dL_law_651 dL_law_652 dL_law_653 (by decide) h1 rfl ?_
  refine gn_callX (lay := layX) (q := qx) (g := gx) (S := SX) (rest := wd_ws qm gm (x_cy X) SM 0 layM) (n := 1) (b := 0) (C := RX11) (As := [.int (xs (i + 1).toNatClampNeg)]) (st := []) (pc' := 657) (st' := [.int v]) (cells' := (c + nc)) (slots' := (s + ns)) h dL_law_654 ⟨mw_1066, mw_1069, mw_2, ⟨by decide +kernel, by decide +kernel⟩, by decide +kernel, Nat.le_of_ble_eq_true rfl, Nat.le_of_ble_eq_true rfl, (show c + 40 ≤ 600000 by omega), (show s + 500000 ≤ 7302250 by omega)⟩ mw_1067 mw_1068 rfl rfl rfl rfl (Nat.le_of_ble_eq_true rfl) cX rfl rfl rfl rfl (fun gx' _ => ?_)
  refine gn_swap ?_
  refine gn_aload_n (pc' := 658) h dL_law_657 rfl rfl ?_
  refine gn_sarg (pc' := 663) h hX hbl hbA (1 : Int32) rfl rfl dL_law_658 dL_law_659 dL_law_660 dL_law_661 dL_law_662 (by decide) h1 rfl ?_
  refine gn_callX (lay := layM) (q := qm) (g := gm) (S := SM) (rest := wd_ws qx gx' (x_cy X) SX' 0 layX) (n := 1) (b := 0) (C := RX12) (As := [.int (xs (i + 1).toNatClampNeg)]) (st := [.int v]) (pc' := 666) (st' := [.int v, .int v]) (cells' := (c + nc + 0)) (slots' := (s + ns + 0)) h dL_law_663 ⟨mw_1075, mw_1078, mw_5, ⟨by decide +kernel, by decide +kernel⟩, by decide +kernel, Nat.le_of_ble_eq_true rfl, Nat.le_of_ble_eq_true rfl, (show c + nc + 0 ≤ 600000 by omega), (show s + ns + 0 ≤ 7302250 by omega)⟩ mw_1076 mw_1077 rfl rfl rfl rfl (Nat.le_of_ble_eq_true rfl) cM rfl rfl rfl rfl (fun gm' _ => ?_)
  refine gn_swap ?_
  exact gn_icmp_eq (tgt := 1379) (pc' := 669) h dL_law_666 (by decide) rfl (fun _ => (K gx' gm' SX' SM' (c + nc + 0) (s + ns + 0) hR' (by omega) (by omega))) (fun q => absurd rfl q)
set_option maxHeartbeats 4000000 in
theorem law_mending {X : XT} {rt : Option FieldType} (h : NC X cL_law RL 4 rt room_1) {b L : Nat} {xs : Nat → Int32} (hX : va_X b L xs (x_s X) (x_s X).heap) (hbl : b < (x_s X).heap.size) (hbA : ¬ (x_A X) b) {qx qm gx gm : Nat → Nat} {SX SM : wd_W} {c s : Nat} {i : Int32} (hR : RW SX SM) (hc : c + 80 ≤ 600000) (hs : s + 1000000 ≤ 7302250) (h1 : vp_in (i + 1) L) (h2 : vp_in (i + 2) L) (h3 : vp_in (i + 3) L) (h4 : vp_in (i + 4) L) (h5 : vp_in (i + 5) L) (K : LK X qx qm b i SX c s) : GN X (wd_ws qx gx (x_cy X) SX 0 layX ++ wd_ws qm gm (x_cy X) SM 0 layM) 671 [(0, .ref b), (1, .ref (qx 0)), (2, .ref (qm 0)), (3, .int i)] [] c s := by
  obtain ⟨v, SX', SM', nc, ns, cX, cM, hR', hn, hz⟩ := p_mending (x_l X) (x_D X) qx gx qm gm (x_cy X) (x_z X) hR (xs (i + 1).toNatClampNeg) (xs (i + 2).toNatClampNeg) (xs (i + 3).toNatClampNeg)
  have hlen : lenS SX' ≤ 120000 := by
    obtain ⟨st, w, _⟩ := hR'
    exact lenS_le w
  refine gn_aload_n (pc' := 672) h dL_law_671 rfl rfl ?_
  refine gn_sarg (pc' := 677) h hX hbl hbA (1 : Int32) rfl rfl dL_law_672 dL_law_673 dL_law_674 dL_law_675 dL_law_676 (by decide) h1 rfl ?_
  refine gn_sarg (pc' := 682) h hX hbl hbA (2 : Int32) rfl rfl dL_law_677 dL_law_678 dL_law_679 dL_law_680 dL_law_681 (by decide) h2 rfl ?_
  refine gn_sarg (pc' := 687) h hX hbl hbA (3 : Int32) rfl rfl dL_law_682 dL_law_683 dL_law_684 dL_law_685 dL_law_686 (by decide) h3 rfl ?_
  refine gn_callX (lay := layX) (q := qx) (g := gx) (S := SX) (rest := wd_ws qm gm (x_cy X) SM 0 layM) (n := 3) (b := 0) (C := RX11) (As := [.int (xs (i + 1).toNatClampNeg), .int (xs (i + 2).toNatClampNeg), .int (xs (i + 3).toNatClampNeg)]) (st := []) (pc' := 690) (st' := [.int v]) (cells' := (c + nc)) (slots' := (s + ns)) h dL_law_687 ⟨mw_1079, mw_1082, mw_2, ⟨by decide +kernel, by decide +kernel⟩, by decide +kernel, Nat.le_of_ble_eq_true rfl, Nat.le_of_ble_eq_true rfl, (show c + 0 ≤ 600000 by omega), (show s + 0 ≤ 7302250 by omega)⟩ mw_1080 mw_1081 rfl rfl rfl rfl (Nat.le_of_ble_eq_true rfl) cX rfl rfl rfl rfl (fun gx' _ => ?_)
  refine gn_swap ?_
  refine gn_aload_n (pc' := 691) h dL_law_690 rfl rfl ?_
  refine gn_sarg (pc' := 696) h hX hbl hbA (1 : Int32) rfl rfl dL_law_691 dL_law_692 dL_law_693 dL_law_694 dL_law_695 (by decide) h1 rfl ?_
  refine gn_sarg (pc' := 701) h hX hbl hbA (2 : Int32) rfl rfl dL_law_696 dL_law_697 dL_law_698 dL_law_699 dL_law_700 (by decide) h2 rfl ?_
  refine gn_sarg (pc' := 706) h hX hbl hbA (3 : Int32) rfl rfl dL_law_701 dL_law_702 dL_law_703 dL_law_704 dL_law_705 (by decide) h3 rfl ?_
  refine gn_callX (lay := layM) (q := qm) (g := gm) (S := SM) (rest := wd_ws qx gx' (x_cy X) SX' 0 layX) (n := 3) (b := 0) (C := RX12) (As := [.int (xs (i + 1).toNatClampNeg), .int (xs (i + 2).toNatClampNeg), .int (xs (i + 3).toNatClampNeg)]) (st := [.int v]) (pc' := 709) (st' := [.int v, .int v]) (cells' := (c + nc + 0)) (slots' := (s + ns + 0)) h dL_law_706 ⟨mw_1088, mw_1091, mw_5, ⟨by decide +kernel, by decide +kernel⟩, by decide +kernel, Nat.le_of_ble_eq_true rfl, Nat.le_of_ble_eq_true rfl, (show c + nc + 0 ≤ 600000 by omega), (show s + ns + 0 ≤ 7302250 by omega)⟩ mw_1089 mw_1090 rfl rfl rfl rfl (Nat.le_of_ble_eq_true rfl) cM rfl rfl rfl rfl (fun gm' _ => ?_)
  refine gn_swap ?_
  exact gn_icmp_eq (tgt := 1379) (pc' := 712) h dL_law_709 (by decide) rfl (fun _ => (K gx' gm' SX' SM' (c + nc + 0) (s + ns + 0) hR' (by omega) (by omega))) (fun q => absurd rfl q)
set_option maxHeartbeats 4000000 in
theorem law_mend {X : XT} {rt : Option FieldType} (h : NC X cL_law RL 4 rt room_1) {b L : Nat} {xs : Nat → Int32} (hX : va_X b L xs (x_s X) (x_s X).heap) (hbl : b < (x_s X).heap.size) (hbA : ¬ (x_A X) b) {qx qm gx gm : Nat → Nat} {SX SM : wd_W} {c s : Nat} {i : Int32} (hR : RW SX SM) (hc : c + 80 ≤ 600000) (hs : s + 1000000 ≤ 7302250) (h1 : vp_in (i + 1) L) (h2 : vp_in (i + 2) L) (h3 : vp_in (i + 3) L) (h4 : vp_in (i + 4) L) (h5 : vp_in (i + 5) L) (K : LK X qx qm b i SX c s) : GN X (wd_ws qx gx (x_cy X) SX 0 layX ++ wd_ws qm gm (x_cy X) SM 0 layM) 714 [(0, .ref b), (1, .ref (qx 0)), (2, .ref (qm 0)), (3, .int i)] [] c s := by
  obtain ⟨v, SX', SM', nc, ns, cX, cM, hR', hn, hz⟩ := p_mend (x_l X) (x_D X) qx gx qm gm (x_cy X) (x_z X) hR (xs (i + 1).toNatClampNeg)
  have hlen : lenS SX' ≤ 120000 := by
    obtain ⟨st, w, _⟩ := hR'
    exact lenS_le w
  refine gn_aload_n (pc' := 715) h dL_law_714 rfl rfl ?_
  refine gn_sarg (pc' := 720) h hX hbl hbA (1 : Int32) rfl rfl dL_law_715 dL_law_716 dL_law_717 dL_law_718 dL_law_719 (by decide) h1 rfl ?_
  refine gn_callX (lay := layX) (q := qx) (g := gx) (S := SX) (rest := wd_ws qm gm (x_cy X) SM 0 layM) (n := 1) (b := 0) (C := RX11) (As := [.int (xs (i + 1).toNatClampNeg)]) (st := []) (pc' := 723) (st' := [.long v]) (cells' := (c + nc)) (slots' := (s + ns)) h dL_law_720 ⟨mw_1093, mw_1096, mw_2, ⟨by decide +kernel, by decide +kernel⟩, by decide +kernel, Nat.le_of_ble_eq_true rfl, Nat.le_of_ble_eq_true rfl, (show c + 40 ≤ 600000 by omega), (show s + 500000 ≤ 7302250 by omega)⟩ mw_1094 mw_1095 rfl rfl rfl rfl (Nat.le_of_ble_eq_true rfl) cX rfl rfl rfl rfl (fun gx' _ => ?_)
  refine gn_swap ?_
  refine gn_aload_n (pc' := 724) h dL_law_723 rfl rfl ?_
  refine gn_sarg (pc' := 729) h hX hbl hbA (1 : Int32) rfl rfl dL_law_724 dL_law_725 dL_law_726 dL_law_727 dL_law_728 (by decide) h1 rfl ?_
  refine gn_callX (lay := layM) (q := qm) (g := gm) (S := SM) (rest := wd_ws qx gx' (x_cy X) SX' 0 layX) (n := 1) (b := 0) (C := RX12) (As := [.int (xs (i + 1).toNatClampNeg)]) (st := [.long v]) (pc' := 732) (st' := [.long v, .long v]) (cells' := (c + nc + 0)) (slots' := (s + ns + 0)) h dL_law_729 ⟨mw_1108, mw_1111, mw_5, ⟨by decide +kernel, by decide +kernel⟩, by decide +kernel, Nat.le_of_ble_eq_true rfl, Nat.le_of_ble_eq_true rfl, (show c + nc + 0 ≤ 600000 by omega), (show s + ns + 0 ≤ 7302250 by omega)⟩ mw_1109 mw_1110 rfl rfl rfl rfl (Nat.le_of_ble_eq_true rfl) cM rfl rfl rfl rfl (fun gm' _ => ?_)
  refine gn_swap ?_
  refine gn_lcmp (pc' := 733) h dL_law_732 rfl ?_
  exact gn_if_eq (tgt := 1379) (pc' := 736) h dL_law_733 (by decide) rfl (fun _ => (K gx' gm' SX' SM' (c + nc + 0) (s + ns + 0) hR' (by omega) (by omega))) (fun q => absurd ((lg_cmp_eq v v).mpr rfl) q)
set_option maxHeartbeats 4000000 in
theorem law_mended {X : XT} {rt : Option FieldType} (h : NC X cL_law RL 4 rt room_1) {b L : Nat} {xs : Nat → Int32} (hX : va_X b L xs (x_s X) (x_s X).heap) (hbl : b < (x_s X).heap.size) (hbA : ¬ (x_A X) b) {qx qm gx gm : Nat → Nat} {SX SM : wd_W} {c s : Nat} {i : Int32} (hR : RW SX SM) (hc : c + 80 ≤ 600000) (hs : s + 1000000 ≤ 7302250) (h1 : vp_in (i + 1) L) (h2 : vp_in (i + 2) L) (h3 : vp_in (i + 3) L) (h4 : vp_in (i + 4) L) (h5 : vp_in (i + 5) L) (K : LK X qx qm b i SX c s) : GN X (wd_ws qx gx (x_cy X) SX 0 layX ++ wd_ws qm gm (x_cy X) SM 0 layM) 738 [(0, .ref b), (1, .ref (qx 0)), (2, .ref (qm 0)), (3, .int i)] [] c s := by
  obtain ⟨v, SX', SM', nc, ns, cX, cM, hR', hn, hz⟩ := p_mended (x_l X) (x_D X) qx gx qm gm (x_cy X) (x_z X) hR (xs (i + 1).toNatClampNeg)
  have hlen : lenS SX' ≤ 120000 := by
    obtain ⟨st, w, _⟩ := hR'
    exact lenS_le w
  refine gn_aload_n (pc' := 739) h dL_law_738 rfl rfl ?_
  refine gn_sarg (pc' := 744) h hX hbl hbA (1 : Int32) rfl rfl dL_law_739 dL_law_740 dL_law_741 dL_law_742 dL_law_743 (by decide) h1 rfl ?_
  refine gn_callX (lay := layX) (q := qx) (g := gx) (S := SX) (rest := wd_ws qm gm (x_cy X) SM 0 layM) (n := 1) (b := 0) (C := RX11) (As := [.int (xs (i + 1).toNatClampNeg)]) (st := []) (pc' := 747) (st' := [.int v]) (cells' := (c + nc)) (slots' := (s + ns)) h dL_law_744 ⟨mw_1123, mw_1126, mw_2, ⟨by decide +kernel, by decide +kernel⟩, by decide +kernel, Nat.le_of_ble_eq_true rfl, Nat.le_of_ble_eq_true rfl, (show c + 0 ≤ 600000 by omega), (show s + 0 ≤ 7302250 by omega)⟩ mw_1124 mw_1125 rfl rfl rfl rfl (Nat.le_of_ble_eq_true rfl) cX rfl rfl rfl rfl (fun gx' _ => ?_)
  refine gn_swap ?_
  refine gn_aload_n (pc' := 748) h dL_law_747 rfl rfl ?_
  refine gn_sarg (pc' := 753) h hX hbl hbA (1 : Int32) rfl rfl dL_law_748 dL_law_749 dL_law_750 dL_law_751 dL_law_752 (by decide) h1 rfl ?_
  refine gn_callX (lay := layM) (q := qm) (g := gm) (S := SM) (rest := wd_ws qx gx' (x_cy X) SX' 0 layX) (n := 1) (b := 0) (C := RX12) (As := [.int (xs (i + 1).toNatClampNeg)]) (st := [.int v]) (pc' := 756) (st' := [.int v, .int v]) (cells' := (c + nc + 0)) (slots' := (s + ns + 0)) h dL_law_753 ⟨mw_1127, mw_1130, mw_5, ⟨by decide +kernel, by decide +kernel⟩, by decide +kernel, Nat.le_of_ble_eq_true rfl, Nat.le_of_ble_eq_true rfl, (show c + nc + 0 ≤ 600000 by omega), (show s + ns + 0 ≤ 7302250 by omega)⟩ mw_1128 mw_1129 rfl rfl rfl rfl (Nat.le_of_ble_eq_true rfl) cM rfl rfl rfl rfl (fun gm' _ => ?_)
  refine gn_swap ?_
  exact gn_icmp_eq (tgt := 1379) (pc' := 759) h dL_law_756 (by decide) rfl (fun _ => (K gx' gm' SX' SM' (c + nc + 0) (s + ns + 0) hR' (by omega) (by omega))) (fun q => absurd rfl q)
set_option maxHeartbeats 4000000 in
theorem law_add {X : XT} {rt : Option FieldType} (h : NC X cL_law RL 4 rt room_1) {b L : Nat} {xs : Nat → Int32} (hX : va_X b L xs (x_s X) (x_s X).heap) (hbl : b < (x_s X).heap.size) (hbA : ¬ (x_A X) b) {qx qm gx gm : Nat → Nat} {SX SM : wd_W} {c s : Nat} {i : Int32} (hR : RW SX SM) (hc : c + 80 ≤ 600000) (hs : s + 1000000 ≤ 7302250) (h1 : vp_in (i + 1) L) (h2 : vp_in (i + 2) L) (h3 : vp_in (i + 3) L) (h4 : vp_in (i + 4) L) (h5 : vp_in (i + 5) L) (K : LK X qx qm b i SX c s) : GN X (wd_ws qx gx (x_cy X) SX 0 layX ++ wd_ws qm gm (x_cy X) SM 0 layM) 761 [(0, .ref b), (1, .ref (qx 0)), (2, .ref (qm 0)), (3, .int i)] [] c s := by
  obtain ⟨v, SX', SM', nc, ns, cX, cM, hR', hn, hz⟩ := p_add (x_l X) (x_D X) qx gx qm gm (x_cy X) (x_z X) hR (xs (i + 1).toNatClampNeg) (xs (i + 2).toNatClampNeg)
  have hlen : lenS SX' ≤ 120000 := by
    obtain ⟨st, w, _⟩ := hR'
    exact lenS_le w
  refine gn_aload_n (pc' := 762) h dL_law_761 rfl rfl ?_
  refine gn_sarg (pc' := 767) h hX hbl hbA (1 : Int32) rfl rfl dL_law_762 dL_law_763 dL_law_764 dL_law_765 dL_law_766 (by decide) h1 rfl ?_
  refine gn_sarg (pc' := 772) h hX hbl hbA (2 : Int32) rfl rfl dL_law_767 dL_law_768 dL_law_769 dL_law_770 dL_law_771 (by decide) h2 rfl ?_
  refine gn_callX (lay := layX) (q := qx) (g := gx) (S := SX) (rest := wd_ws qm gm (x_cy X) SM 0 layM) (n := 2) (b := 0) (C := RX11) (As := [.int (xs (i + 1).toNatClampNeg), .int (xs (i + 2).toNatClampNeg)]) (st := []) (pc' := 775) (st' := [.long v]) (cells' := (c + nc)) (slots' := (s + ns)) h dL_law_772 ⟨mw_1131, mw_1134, mw_2, ⟨by decide +kernel, by decide +kernel⟩, by decide +kernel, Nat.le_of_ble_eq_true rfl, Nat.le_of_ble_eq_true rfl, (show c + 40 ≤ 600000 by omega), (show s + 500000 ≤ 7302250 by omega)⟩ mw_1132 mw_1133 rfl rfl rfl rfl (Nat.le_of_ble_eq_true rfl) cX rfl rfl rfl rfl (fun gx' _ => ?_)
  refine gn_swap ?_
  refine gn_aload_n (pc' := 776) h dL_law_775 rfl rfl ?_
  refine gn_sarg (pc' := 781) h hX hbl hbA (1 : Int32) rfl rfl dL_law_776 dL_law_777 dL_law_778 dL_law_779 dL_law_780 (by decide) h1 rfl ?_
  refine gn_sarg (pc' := 786) h hX hbl hbA (2 : Int32) rfl rfl dL_law_781 dL_law_782 dL_law_783 dL_law_784 dL_law_785 (by decide) h2 rfl ?_
  refine gn_callX (lay := layM) (q := qm) (g := gm) (S := SM) (rest := wd_ws qx gx' (x_cy X) SX' 0 layX) (n := 2) (b := 0) (C := RX12) (As := [.int (xs (i + 1).toNatClampNeg), .int (xs (i + 2).toNatClampNeg)]) (st := [.long v]) (pc' := 789) (st' := [.long v, .long v]) (cells' := (c + nc + 0)) (slots' := (s + ns + 0)) h dL_law_786 ⟨mw_1170, mw_1173, mw_5, ⟨by decide +kernel, by decide +kernel⟩, by decide +kernel, Nat.le_of_ble_eq_true rfl, Nat.le_of_ble_eq_true rfl, (show c + nc + 0 ≤ 600000 by omega), (show s + ns + 0 ≤ 7302250 by omega)⟩ mw_1171 mw_1172 rfl rfl rfl rfl (Nat.le_of_ble_eq_true rfl) cM rfl rfl rfl rfl (fun gm' _ => ?_)
  refine gn_swap ?_
  refine gn_lcmp (pc' := 790) h dL_law_789 rfl ?_
  exact gn_if_eq (tgt := 1379) (pc' := 793) h dL_law_790 (by decide) rfl (fun _ => (K gx' gm' SX' SM' (c + nc + 0) (s + ns + 0) hR' (by omega) (by omega))) (fun q => absurd ((lg_cmp_eq v v).mpr rfl) q)
set_option maxHeartbeats 4000000 in
theorem law_plan {X : XT} {rt : Option FieldType} (h : NC X cL_law RL 4 rt room_1) {b L : Nat} {xs : Nat → Int32} (hX : va_X b L xs (x_s X) (x_s X).heap) (hbl : b < (x_s X).heap.size) (hbA : ¬ (x_A X) b) {qx qm gx gm : Nat → Nat} {SX SM : wd_W} {c s : Nat} {i : Int32} (hR : RW SX SM) (hc : c + 80 ≤ 600000) (hs : s + 1000000 ≤ 7302250) (h1 : vp_in (i + 1) L) (h2 : vp_in (i + 2) L) (h3 : vp_in (i + 3) L) (h4 : vp_in (i + 4) L) (h5 : vp_in (i + 5) L) (K : LK X qx qm b i SX c s) : GN X (wd_ws qx gx (x_cy X) SX 0 layX ++ wd_ws qm gm (x_cy X) SM 0 layM) 795 [(0, .ref b), (1, .ref (qx 0)), (2, .ref (qm 0)), (3, .int i)] [] c s := by
  obtain ⟨v, SX', SM', nc, ns, cX, cM, hR', hn, hz⟩ := p_plan (x_l X) (x_D X) qx gx qm gm (x_cy X) (x_z X) hR (xs (i + 1).toNatClampNeg)
  have hlen : lenS SX' ≤ 120000 := by
    obtain ⟨st, w, _⟩ := hR'
    exact lenS_le w
  refine gn_aload_n (pc' := 796) h dL_law_795 rfl rfl ?_
  refine gn_sarg (pc' := 801) h hX hbl hbA (1 : Int32) rfl rfl dL_law_796 dL_law_797 dL_law_798 dL_law_799 dL_law_800 (by decide) h1 rfl ?_
  refine gn_callX (lay := layX) (q := qx) (g := gx) (S := SX) (rest := wd_ws qm gm (x_cy X) SM 0 layM) (n := 1) (b := 0) (C := RX11) (As := [.int (xs (i + 1).toNatClampNeg)]) (st := []) (pc' := 804) (st' := [.int v]) (cells' := (c + nc)) (slots' := (s + ns)) h dL_law_801 ⟨mw_1179, mw_1182, mw_2, ⟨by decide +kernel, by decide +kernel⟩, by decide +kernel, Nat.le_of_ble_eq_true rfl, Nat.le_of_ble_eq_true rfl, (show c + 40 ≤ 600000 by omega), (show s + 500000 ≤ 7302250 by omega)⟩ mw_1180 mw_1181 rfl rfl rfl rfl (Nat.le_of_ble_eq_true rfl) cX rfl rfl rfl rfl (fun gx' _ => ?_)
  refine gn_swap ?_
  refine gn_aload_n (pc' := 805) h dL_law_804 rfl rfl ?_
  refine gn_sarg (pc' := 810) h hX hbl hbA (1 : Int32) rfl rfl dL_law_805 dL_law_806 dL_law_807 dL_law_808 dL_law_809 (by decide) h1 rfl ?_
  refine gn_callX (lay := layM) (q := qm) (g := gm) (S := SM) (rest := wd_ws qx gx' (x_cy X) SX' 0 layX) (n := 1) (b := 0) (C := RX12) (As := [.int (xs (i + 1).toNatClampNeg)]) (st := [.int v]) (pc' := 813) (st' := [.int v, .int v]) (cells' := (c + nc + 0)) (slots' := (s + ns + 0)) h dL_law_810 ⟨mw_1197, mw_1200, mw_5, ⟨by decide +kernel, by decide +kernel⟩, by decide +kernel, Nat.le_of_ble_eq_true rfl, Nat.le_of_ble_eq_true rfl, (show c + nc + 0 ≤ 600000 by omega), (show s + ns + 0 ≤ 7302250 by omega)⟩ mw_1198 mw_1199 rfl rfl rfl rfl (Nat.le_of_ble_eq_true rfl) cM rfl rfl rfl rfl (fun gm' _ => ?_)
  refine gn_swap ?_
  exact gn_icmp_eq (tgt := 1379) (pc' := 816) h dL_law_813 (by decide) rfl (fun _ => (K gx' gm' SX' SM' (c + nc + 0) (s + ns + 0) hR' (by omega) (by omega))) (fun q => absurd rfl q)
set_option maxHeartbeats 4000000 in
theorem law_judge {X : XT} {rt : Option FieldType} (h : NC X cL_law RL 4 rt room_1) {b L : Nat} {xs : Nat → Int32} (hX : va_X b L xs (x_s X) (x_s X).heap) (hbl : b < (x_s X).heap.size) (hbA : ¬ (x_A X) b) {qx qm gx gm : Nat → Nat} {SX SM : wd_W} {c s : Nat} {i : Int32} (hR : RW SX SM) (hc : c + 80 ≤ 600000) (hs : s + 1000000 ≤ 7302250) (h1 : vp_in (i + 1) L) (h2 : vp_in (i + 2) L) (h3 : vp_in (i + 3) L) (h4 : vp_in (i + 4) L) (h5 : vp_in (i + 5) L) (K : LK X qx qm b i SX c s) : GN X (wd_ws qx gx (x_cy X) SX 0 layX ++ wd_ws qm gm (x_cy X) SM 0 layM) 818 [(0, .ref b), (1, .ref (qx 0)), (2, .ref (qm 0)), (3, .int i)] [] c s := by
  obtain ⟨v, SX', SM', nc, ns, cX, cM, hR', hn, hz⟩ := p_judge (x_l X) (x_D X) qx gx qm gm (x_cy X) (x_z X) hR (xs (i + 1).toNatClampNeg)
  have hlen : lenS SX' ≤ 120000 := by
    obtain ⟨st, w, _⟩ := hR'
    exact lenS_le w
  refine gn_aload_n (pc' := 819) h dL_law_818 rfl rfl ?_
  refine gn_sarg (pc' := 824) h hX hbl hbA (1 : Int32) rfl rfl dL_law_819 dL_law_820 dL_law_821 dL_law_822 dL_law_823 (by decide) h1 rfl ?_
  refine gn_callX (lay := layX) (q := qx) (g := gx) (S := SX) (rest := wd_ws qm gm (x_cy X) SM 0 layM) (n := 1) (b := 0) (C := RX11) (As := [.int (xs (i + 1).toNatClampNeg)]) (st := []) (pc' := 827) (st' := [.long v]) (cells' := (c + nc)) (slots' := (s + ns)) h dL_law_824 ⟨mw_1213, mw_1216, mw_2, ⟨by decide +kernel, by decide +kernel⟩, by decide +kernel, Nat.le_of_ble_eq_true rfl, Nat.le_of_ble_eq_true rfl, (show c + 40 ≤ 600000 by omega), (show s + 500000 ≤ 7302250 by omega)⟩ mw_1214 mw_1215 rfl rfl rfl rfl (Nat.le_of_ble_eq_true rfl) cX rfl rfl rfl rfl (fun gx' _ => ?_)
  refine gn_swap ?_
  refine gn_aload_n (pc' := 828) h dL_law_827 rfl rfl ?_
  refine gn_sarg (pc' := 833) h hX hbl hbA (1 : Int32) rfl rfl dL_law_828 dL_law_829 dL_law_830 dL_law_831 dL_law_832 (by decide) h1 rfl ?_
  refine gn_callX (lay := layM) (q := qm) (g := gm) (S := SM) (rest := wd_ws qx gx' (x_cy X) SX' 0 layX) (n := 1) (b := 0) (C := RX12) (As := [.int (xs (i + 1).toNatClampNeg)]) (st := [.long v]) (pc' := 836) (st' := [.long v, .long v]) (cells' := (c + nc + 0)) (slots' := (s + ns + 0)) h dL_law_833 ⟨mw_1218, mw_1221, mw_5, ⟨by decide +kernel, by decide +kernel⟩, by decide +kernel, Nat.le_of_ble_eq_true rfl, Nat.le_of_ble_eq_true rfl, (show c + nc + 0 ≤ 600000 by omega), (show s + ns + 0 ≤ 7302250 by omega)⟩ mw_1219 mw_1220 rfl rfl rfl rfl (Nat.le_of_ble_eq_true rfl) cM rfl rfl rfl rfl (fun gm' _ => ?_)
  refine gn_swap ?_
  refine gn_lcmp (pc' := 837) h dL_law_836 rfl ?_
  exact gn_if_eq (tgt := 1379) (pc' := 840) h dL_law_837 (by decide) rfl (fun _ => (K gx' gm' SX' SM' (c + nc + 0) (s + ns + 0) hR' (by omega) (by omega))) (fun q => absurd ((lg_cmp_eq v v).mpr rfl) q)
set_option maxHeartbeats 4000000 in
theorem law_without {X : XT} {rt : Option FieldType} (h : NC X cL_law RL 4 rt room_1) {b L : Nat} {xs : Nat → Int32} (hX : va_X b L xs (x_s X) (x_s X).heap) (hbl : b < (x_s X).heap.size) (hbA : ¬ (x_A X) b) {qx qm gx gm : Nat → Nat} {SX SM : wd_W} {c s : Nat} {i : Int32} (hR : RW SX SM) (hc : c + 80 ≤ 600000) (hs : s + 1000000 ≤ 7302250) (h1 : vp_in (i + 1) L) (h2 : vp_in (i + 2) L) (h3 : vp_in (i + 3) L) (h4 : vp_in (i + 4) L) (h5 : vp_in (i + 5) L) (K : LK X qx qm b i SX c s) : GN X (wd_ws qx gx (x_cy X) SX 0 layX ++ wd_ws qm gm (x_cy X) SM 0 layM) 842 [(0, .ref b), (1, .ref (qx 0)), (2, .ref (qm 0)), (3, .int i)] [] c s := by
  obtain ⟨v, SX', SM', nc, ns, cX, cM, hR', hn, hz⟩ := p_without (x_l X) (x_D X) qx gx qm gm (x_cy X) (x_z X) hR (xs (i + 1).toNatClampNeg)
  have hlen : lenS SX' ≤ 120000 := by
    obtain ⟨st, w, _⟩ := hR'
    exact lenS_le w
  refine gn_aload_n (pc' := 843) h dL_law_842 rfl rfl ?_
  refine gn_sarg (pc' := 848) h hX hbl hbA (1 : Int32) rfl rfl dL_law_843 dL_law_844 dL_law_845 dL_law_846 dL_law_847 (by decide) h1 rfl ?_
  refine gn_callX (lay := layX) (q := qx) (g := gx) (S := SX) (rest := wd_ws qm gm (x_cy X) SM 0 layM) (n := 1) (b := 0) (C := RX11) (As := [.int (xs (i + 1).toNatClampNeg)]) (st := []) (pc' := 851) (st' := [.long v]) (cells' := (c + nc)) (slots' := (s + ns)) h dL_law_848 ⟨mw_1222, mw_1225, mw_2, ⟨by decide +kernel, by decide +kernel⟩, by decide +kernel, Nat.le_of_ble_eq_true rfl, Nat.le_of_ble_eq_true rfl, (show c + 40 ≤ 600000 by omega), (show s + 500000 ≤ 7302250 by omega)⟩ mw_1223 mw_1224 rfl rfl rfl rfl (Nat.le_of_ble_eq_true rfl) cX rfl rfl rfl rfl (fun gx' _ => ?_)
  refine gn_swap ?_
  refine gn_aload_n (pc' := 852) h dL_law_851 rfl rfl ?_
  refine gn_sarg (pc' := 857) h hX hbl hbA (1 : Int32) rfl rfl dL_law_852 dL_law_853 dL_law_854 dL_law_855 dL_law_856 (by decide) h1 rfl ?_
  refine gn_callX (lay := layM) (q := qm) (g := gm) (S := SM) (rest := wd_ws qx gx' (x_cy X) SX' 0 layX) (n := 1) (b := 0) (C := RX12) (As := [.int (xs (i + 1).toNatClampNeg)]) (st := [.long v]) (pc' := 860) (st' := [.long v, .long v]) (cells' := (c + nc + 0)) (slots' := (s + ns + 0)) h dL_law_857 ⟨mw_1228, mw_1231, mw_5, ⟨by decide +kernel, by decide +kernel⟩, by decide +kernel, Nat.le_of_ble_eq_true rfl, Nat.le_of_ble_eq_true rfl, (show c + nc + 0 ≤ 600000 by omega), (show s + ns + 0 ≤ 7302250 by omega)⟩ mw_1229 mw_1230 rfl rfl rfl rfl (Nat.le_of_ble_eq_true rfl) cM rfl rfl rfl rfl (fun gm' _ => ?_)
  refine gn_swap ?_
  refine gn_lcmp (pc' := 861) h dL_law_860 rfl ?_
  exact gn_if_eq (tgt := 1379) (pc' := 864) h dL_law_861 (by decide) rfl (fun _ => (K gx' gm' SX' SM' (c + nc + 0) (s + ns + 0) hR' (by omega) (by omega))) (fun q => absurd ((lg_cmp_eq v v).mpr rfl) q)
set_option maxHeartbeats 4000000 in
theorem law_letter {X : XT} {rt : Option FieldType} (h : NC X cL_law RL 4 rt room_1) {b L : Nat} {xs : Nat → Int32} (hX : va_X b L xs (x_s X) (x_s X).heap) (hbl : b < (x_s X).heap.size) (hbA : ¬ (x_A X) b) {qx qm gx gm : Nat → Nat} {SX SM : wd_W} {c s : Nat} {i : Int32} (hR : RW SX SM) (hc : c + 80 ≤ 600000) (hs : s + 1000000 ≤ 7302250) (h1 : vp_in (i + 1) L) (h2 : vp_in (i + 2) L) (h3 : vp_in (i + 3) L) (h4 : vp_in (i + 4) L) (h5 : vp_in (i + 5) L) (K : LK X qx qm b i SX c s) : GN X (wd_ws qx gx (x_cy X) SX 0 layX ++ wd_ws qm gm (x_cy X) SM 0 layM) 866 [(0, .ref b), (1, .ref (qx 0)), (2, .ref (qm 0)), (3, .int i)] [] c s := by
  obtain ⟨v, SX', SM', nc, ns, cX, cM, hR', hn, hz⟩ := p_letter (x_l X) (x_D X) qx gx qm gm (x_cy X) (x_z X) hR (xs (i + 1).toNatClampNeg) (xs (i + 2).toNatClampNeg) (decide (¬ xs (i + 3).toNatClampNeg = 0))
  have hlen : lenS SX' ≤ 120000 := by
    obtain ⟨st, w, _⟩ := hR'
    exact lenS_le w
  refine gn_aload_n (pc' := 867) h dL_law_866 rfl rfl ?_
  refine gn_sarg (pc' := 872) h hX hbl hbA (1 : Int32) rfl rfl dL_law_867 dL_law_868 dL_law_869 dL_law_870 dL_law_871 (by decide) h1 rfl ?_
  refine gn_sarg (pc' := 877) h hX hbl hbA (2 : Int32) rfl rfl dL_law_872 dL_law_873 dL_law_874 dL_law_875 dL_law_876 (by decide) h2 rfl ?_
  refine gn_sarg (pc' := 882) h hX hbl hbA (3 : Int32) rfl rfl dL_law_877 dL_law_878 dL_law_879 dL_law_880 dL_law_881 (by decide) h3 rfl ?_
  refine gn_sbool (pc' := 890) h dL_law_882 dL_law_885 dL_law_886 dL_law_889 rfl ?_
  refine gn_callX (lay := layX) (q := qx) (g := gx) (S := SX) (rest := wd_ws qm gm (x_cy X) SM 0 layM) (n := 3) (b := 0) (C := RX11) (As := [.int (xs (i + 1).toNatClampNeg), .int (xs (i + 2).toNatClampNeg), .int (nI (b2n (decide (¬ xs (i + 3).toNatClampNeg = 0))))]) (st := []) (pc' := 893) (st' := [.int v]) (cells' := (c + nc)) (slots' := (s + ns)) h dL_law_890 ⟨mw_1232, mw_1235, mw_2, ⟨by decide +kernel, by decide +kernel⟩, by decide +kernel, Nat.le_of_ble_eq_true rfl, Nat.le_of_ble_eq_true rfl, (show c + 0 ≤ 600000 by omega), (show s + 0 ≤ 7302250 by omega)⟩ mw_1233 mw_1234 rfl rfl rfl rfl (Nat.le_of_ble_eq_true rfl) cX rfl rfl rfl rfl (fun gx' _ => ?_)
  refine gn_swap ?_
  refine gn_aload_n (pc' := 894) h dL_law_893 rfl rfl ?_
  refine gn_sarg (pc' := 899) h hX hbl hbA (1 : Int32) rfl rfl dL_law_894 dL_law_895 dL_law_896 dL_law_897 dL_law_898 (by decide) h1 rfl ?_
  refine gn_sarg (pc' := 904) h hX hbl hbA (2 : Int32) rfl rfl dL_law_899 dL_law_900 dL_law_901 dL_law_902 dL_law_903 (by decide) h2 rfl ?_
  refine gn_sarg (pc' := 909) h hX hbl hbA (3 : Int32) rfl rfl dL_law_904 dL_law_905 dL_law_906 dL_law_907 dL_law_908 (by decide) h3 rfl ?_
  refine gn_sbool (pc' := 917) h dL_law_909 dL_law_912 dL_law_913 dL_law_916 rfl ?_
  refine gn_callX (lay := layM) (q := qm) (g := gm) (S := SM) (rest := wd_ws qx gx' (x_cy X) SX' 0 layX) (n := 3) (b := 0) (C := RX12) (As := [.int (xs (i + 1).toNatClampNeg), .int (xs (i + 2).toNatClampNeg), .int (nI (b2n (decide (¬ xs (i + 3).toNatClampNeg = 0))))]) (st := [.int v]) (pc' := 920) (st' := [.int v, .int v]) (cells' := (c + nc + 0)) (slots' := (s + ns + 0)) h dL_law_917 ⟨mw_1245, mw_1248, mw_5, ⟨by decide +kernel, by decide +kernel⟩, by decide +kernel, Nat.le_of_ble_eq_true rfl, Nat.le_of_ble_eq_true rfl, (show c + nc + 0 ≤ 600000 by omega), (show s + ns + 0 ≤ 7302250 by omega)⟩ mw_1246 mw_1247 rfl rfl rfl rfl (Nat.le_of_ble_eq_true rfl) cM rfl rfl rfl rfl (fun gm' _ => ?_)
  refine gn_swap ?_
  exact gn_icmp_eq (tgt := 1379) (pc' := 923) h dL_law_920 (by decide) rfl (fun _ => (K gx' gm' SX' SM' (c + nc + 0) (s + ns + 0) hR' (by omega) (by omega))) (fun q => absurd rfl q)
set_option maxHeartbeats 4000000 in
theorem law_thought {X : XT} {rt : Option FieldType} (h : NC X cL_law RL 4 rt room_1) {b L : Nat} {xs : Nat → Int32} (hX : va_X b L xs (x_s X) (x_s X).heap) (hbl : b < (x_s X).heap.size) (hbA : ¬ (x_A X) b) {qx qm gx gm : Nat → Nat} {SX SM : wd_W} {c s : Nat} {i : Int32} (hR : RW SX SM) (hc : c + 80 ≤ 600000) (hs : s + 1000000 ≤ 7302250) (h1 : vp_in (i + 1) L) (h2 : vp_in (i + 2) L) (h3 : vp_in (i + 3) L) (h4 : vp_in (i + 4) L) (h5 : vp_in (i + 5) L) (K : LK X qx qm b i SX c s) : GN X (wd_ws qx gx (x_cy X) SX 0 layX ++ wd_ws qm gm (x_cy X) SM 0 layM) 925 [(0, .ref b), (1, .ref (qx 0)), (2, .ref (qm 0)), (3, .int i)] [] c s := by
  obtain ⟨v, SX', SM', nc, ns, cX, cM, hR', hn, hz⟩ := p_thought (x_l X) (x_D X) qx gx qm gm (x_cy X) (x_z X) hR (xs (i + 1).toNatClampNeg) (xs (i + 2).toNatClampNeg)
  have hlen : lenS SX' ≤ 120000 := by
    obtain ⟨st, w, _⟩ := hR'
    exact lenS_le w
  refine gn_aload_n (pc' := 926) h dL_law_925 rfl rfl ?_
  refine gn_sarg (pc' := 931) h hX hbl hbA (1 : Int32) rfl rfl dL_law_926 dL_law_927 dL_law_928 dL_law_929 dL_law_930 (by decide) h1 rfl ?_
  refine gn_sarg (pc' := 936) h hX hbl hbA (2 : Int32) rfl rfl dL_law_931 dL_law_932 dL_law_933 dL_law_934 dL_law_935 (by decide) h2 rfl ?_
  refine gn_callX (lay := layX) (q := qx) (g := gx) (S := SX) (rest := wd_ws qm gm (x_cy X) SM 0 layM) (n := 2) (b := 0) (C := RX11) (As := [.int (xs (i + 1).toNatClampNeg), .int (xs (i + 2).toNatClampNeg)]) (st := []) (pc' := 939) (st' := [.long v]) (cells' := (c + nc)) (slots' := (s + ns)) h dL_law_936 ⟨mw_1253, mw_1256, mw_2, ⟨by decide +kernel, by decide +kernel⟩, by decide +kernel, Nat.le_of_ble_eq_true rfl, Nat.le_of_ble_eq_true rfl, (show c + 40 ≤ 600000 by omega), (show s + 500000 ≤ 7302250 by omega)⟩ mw_1254 mw_1255 rfl rfl rfl rfl (Nat.le_of_ble_eq_true rfl) cX rfl rfl rfl rfl (fun gx' _ => ?_)
  refine gn_swap ?_
  refine gn_aload_n (pc' := 940) h dL_law_939 rfl rfl ?_
  refine gn_sarg (pc' := 945) h hX hbl hbA (1 : Int32) rfl rfl dL_law_940 dL_law_941 dL_law_942 dL_law_943 dL_law_944 (by decide) h1 rfl ?_
  refine gn_sarg (pc' := 950) h hX hbl hbA (2 : Int32) rfl rfl dL_law_945 dL_law_946 dL_law_947 dL_law_948 dL_law_949 (by decide) h2 rfl ?_
  refine gn_callX (lay := layM) (q := qm) (g := gm) (S := SM) (rest := wd_ws qx gx' (x_cy X) SX' 0 layX) (n := 2) (b := 0) (C := RX12) (As := [.int (xs (i + 1).toNatClampNeg), .int (xs (i + 2).toNatClampNeg)]) (st := [.long v]) (pc' := 953) (st' := [.long v, .long v]) (cells' := (c + nc + 0)) (slots' := (s + ns + 0)) h dL_law_950 ⟨mw_1268, mw_1271, mw_5, ⟨by decide +kernel, by decide +kernel⟩, by decide +kernel, Nat.le_of_ble_eq_true rfl, Nat.le_of_ble_eq_true rfl, (show c + nc + 0 ≤ 600000 by omega), (show s + ns + 0 ≤ 7302250 by omega)⟩ mw_1269 mw_1270 rfl rfl rfl rfl (Nat.le_of_ble_eq_true rfl) cM rfl rfl rfl rfl (fun gm' _ => ?_)
  refine gn_swap ?_
  refine gn_lcmp (pc' := 954) h dL_law_953 rfl ?_
  exact gn_if_eq (tgt := 1379) (pc' := 957) h dL_law_954 (by decide) rfl (fun _ => (K gx' gm' SX' SM' (c + nc + 0) (s + ns + 0) hR' (by omega) (by omega))) (fun q => absurd ((lg_cmp_eq v v).mpr rfl) q)
set_option maxHeartbeats 4000000 in
theorem law_look {X : XT} {rt : Option FieldType} (h : NC X cL_law RL 4 rt room_1) {b L : Nat} {xs : Nat → Int32} (hX : va_X b L xs (x_s X) (x_s X).heap) (hbl : b < (x_s X).heap.size) (hbA : ¬ (x_A X) b) {qx qm gx gm : Nat → Nat} {SX SM : wd_W} {c s : Nat} {i : Int32} (hR : RW SX SM) (hc : c + 80 ≤ 600000) (hs : s + 1000000 ≤ 7302250) (h1 : vp_in (i + 1) L) (h2 : vp_in (i + 2) L) (h3 : vp_in (i + 3) L) (h4 : vp_in (i + 4) L) (h5 : vp_in (i + 5) L) (K : LK X qx qm b i SX c s) : GN X (wd_ws qx gx (x_cy X) SX 0 layX ++ wd_ws qm gm (x_cy X) SM 0 layM) 959 [(0, .ref b), (1, .ref (qx 0)), (2, .ref (qm 0)), (3, .int i)] [] c s := by
  obtain ⟨v, SX', SM', nc, ns, cX, cM, hR', hn, hz⟩ := p_look (x_l X) (x_D X) qx gx qm gm (x_cy X) (x_z X) hR
  have hlen : lenS SX' ≤ 120000 := by
    obtain ⟨st, w, _⟩ := hR'
    exact lenS_le w
  refine gn_aload_n (pc' := 960) h dL_law_959 rfl rfl ?_
  refine gn_callX (lay := layX) (q := qx) (g := gx) (S := SX) (rest := wd_ws qm gm (x_cy X) SM 0 layM) (n := 0) (b := 0) (C := RX11) (As := []) (st := []) (pc' := 963) (st' := [.int v]) (cells' := (c + nc)) (slots' := (s + ns)) h dL_law_960 ⟨mw_1281, mw_1284, mw_2, ⟨by decide +kernel, by decide +kernel⟩, by decide +kernel, Nat.le_of_ble_eq_true rfl, Nat.le_of_ble_eq_true rfl, (show c + 40 ≤ 600000 by omega), (show s + 500000 ≤ 7302250 by omega)⟩ mw_1282 mw_1283 rfl rfl rfl rfl (Nat.le_of_ble_eq_true rfl) cX rfl rfl rfl rfl (fun gx' _ => ?_)
  refine gn_swap ?_
  refine gn_aload_n (pc' := 964) h dL_law_963 rfl rfl ?_
  refine gn_callX (lay := layM) (q := qm) (g := gm) (S := SM) (rest := wd_ws qx gx' (x_cy X) SX' 0 layX) (n := 0) (b := 0) (C := RX12) (As := []) (st := [.int v]) (pc' := 967) (st' := [.int v, .int v]) (cells' := (c + nc + 0)) (slots' := (s + ns + 0)) h dL_law_964 ⟨mw_1296, mw_1299, mw_5, ⟨by decide +kernel, by decide +kernel⟩, by decide +kernel, Nat.le_of_ble_eq_true rfl, Nat.le_of_ble_eq_true rfl, (show c + nc + 0 ≤ 600000 by omega), (show s + ns + 0 ≤ 7302250 by omega)⟩ mw_1297 mw_1298 rfl rfl rfl rfl (Nat.le_of_ble_eq_true rfl) cM rfl rfl rfl rfl (fun gm' _ => ?_)
  refine gn_swap ?_
  exact gn_icmp_eq (tgt := 1379) (pc' := 970) h dL_law_967 (by decide) rfl (fun _ => (K gx' gm' SX' SM' (c + nc + 0) (s + ns + 0) hR' (by omega) (by omega))) (fun q => absurd rfl q)
set_option maxHeartbeats 4000000 in
theorem law_within {X : XT} {rt : Option FieldType} (h : NC X cL_law RL 4 rt room_1) {b L : Nat} {xs : Nat → Int32} (hX : va_X b L xs (x_s X) (x_s X).heap) (hbl : b < (x_s X).heap.size) (hbA : ¬ (x_A X) b) {qx qm gx gm : Nat → Nat} {SX SM : wd_W} {c s : Nat} {i : Int32} (hR : RW SX SM) (hc : c + 80 ≤ 600000) (hs : s + 1000000 ≤ 7302250) (h1 : vp_in (i + 1) L) (h2 : vp_in (i + 2) L) (h3 : vp_in (i + 3) L) (h4 : vp_in (i + 4) L) (h5 : vp_in (i + 5) L) (K : LK X qx qm b i SX c s) : GN X (wd_ws qx gx (x_cy X) SX 0 layX ++ wd_ws qm gm (x_cy X) SM 0 layM) 972 [(0, .ref b), (1, .ref (qx 0)), (2, .ref (qm 0)), (3, .int i)] [] c s := by
  obtain ⟨v, SX', SM', nc, ns, cX, cM, hR', hn, hz⟩ := p_within (x_l X) (x_D X) qx gx qm gm (x_cy X) (x_z X) hR (xs (i + 1).toNatClampNeg) (xs (i + 2).toNatClampNeg) (xs (i + 3).toNatClampNeg)
  have hlen : lenS SX' ≤ 120000 := by
    obtain ⟨st, w, _⟩ := hR'
    exact lenS_le w
  refine gn_aload_n (pc' := 973) h dL_law_972 rfl rfl ?_
  refine gn_sarg (pc' := 978) h hX hbl hbA (1 : Int32) rfl rfl dL_law_973 dL_law_974 dL_law_975 dL_law_976 dL_law_977 (by decide) h1 rfl ?_
  refine gn_sarg (pc' := 983) h hX hbl hbA (2 : Int32) rfl rfl dL_law_978 dL_law_979 dL_law_980 dL_law_981 dL_law_982 (by decide) h2 rfl ?_
  refine gn_sarg (pc' := 988) h hX hbl hbA (3 : Int32) rfl rfl dL_law_983 dL_law_984 dL_law_985 dL_law_986 dL_law_987 (by decide) h3 rfl ?_
  refine gn_callX (lay := layX) (q := qx) (g := gx) (S := SX) (rest := wd_ws qm gm (x_cy X) SM 0 layM) (n := 3) (b := 0) (C := RX11) (As := [.int (xs (i + 1).toNatClampNeg), .int (xs (i + 2).toNatClampNeg), .int (xs (i + 3).toNatClampNeg)]) (st := []) (pc' := 991) (st' := [.long v]) (cells' := (c + nc)) (slots' := (s + ns)) h dL_law_988 ⟨mw_1300, mw_1303, mw_2, ⟨by decide +kernel, by decide +kernel⟩, by decide +kernel, Nat.le_of_ble_eq_true rfl, Nat.le_of_ble_eq_true rfl, (show c + 40 ≤ 600000 by omega), (show s + 500000 ≤ 7302250 by omega)⟩ mw_1301 mw_1302 rfl rfl rfl rfl (Nat.le_of_ble_eq_true rfl) cX rfl rfl rfl rfl (fun gx' _ => ?_)
  refine gn_swap ?_
  refine gn_aload_n (pc' := 992) h dL_law_991 rfl rfl ?_
  refine gn_sarg (pc' := 997) h hX hbl hbA (1 : Int32) rfl rfl dL_law_992 dL_law_993 dL_law_994 dL_law_995 dL_law_996 (by decide) h1 rfl ?_
  refine gn_sarg (pc' := 1002) h hX hbl hbA (2 : Int32) rfl rfl dL_law_997 dL_law_998 dL_law_999 dL_law_1000 dL_law_1001 (by decide) h2 rfl ?_
  refine gn_sarg (pc' := 1007) h hX hbl hbA (3 : Int32) rfl rfl dL_law_1002 dL_law_1003 dL_law_1004 dL_law_1005 dL_law_1006 (by decide) h3 rfl ?_
  refine gn_callX (lay := layM) (q := qm) (g := gm) (S := SM) (rest := wd_ws qx gx' (x_cy X) SX' 0 layX) (n := 3) (b := 0) (C := RX12) (As := [.int (xs (i + 1).toNatClampNeg), .int (xs (i + 2).toNatClampNeg), .int (xs (i + 3).toNatClampNeg)]) (st := [.long v]) (pc' := 1010) (st' := [.long v, .long v]) (cells' := (c + nc + 0)) (slots' := (s + ns + 0)) h dL_law_1007 ⟨mw_1323, mw_1326, mw_5, ⟨by decide +kernel, by decide +kernel⟩, by decide +kernel, Nat.le_of_ble_eq_true rfl, Nat.le_of_ble_eq_true rfl, (show c + nc + 0 ≤ 600000 by omega), (show s + ns + 0 ≤ 7302250 by omega)⟩ mw_1324 mw_1325 rfl rfl rfl rfl (Nat.le_of_ble_eq_true rfl) cM rfl rfl rfl rfl (fun gm' _ => ?_)
  refine gn_swap ?_
  refine gn_lcmp (pc' := 1011) h dL_law_1010 rfl ?_
  exact gn_if_eq (tgt := 1379) (pc' := 1014) h dL_law_1011 (by decide) rfl (fun _ => (K gx' gm' SX' SM' (c + nc + 0) (s + ns + 0) hR' (by omega) (by omega))) (fun q => absurd ((lg_cmp_eq v v).mpr rfl) q)
set_option maxHeartbeats 4000000 in
theorem law_soon {X : XT} {rt : Option FieldType} (h : NC X cL_law RL 4 rt room_1) {b L : Nat} {xs : Nat → Int32} (hX : va_X b L xs (x_s X) (x_s X).heap) (hbl : b < (x_s X).heap.size) (hbA : ¬ (x_A X) b) {qx qm gx gm : Nat → Nat} {SX SM : wd_W} {c s : Nat} {i : Int32} (hR : RW SX SM) (hc : c + 80 ≤ 600000) (hs : s + 1000000 ≤ 7302250) (h1 : vp_in (i + 1) L) (h2 : vp_in (i + 2) L) (h3 : vp_in (i + 3) L) (h4 : vp_in (i + 4) L) (h5 : vp_in (i + 5) L) (K : LK X qx qm b i SX c s) : GN X (wd_ws qx gx (x_cy X) SX 0 layX ++ wd_ws qm gm (x_cy X) SM 0 layM) 1016 [(0, .ref b), (1, .ref (qx 0)), (2, .ref (qm 0)), (3, .int i)] [] c s := by
  obtain ⟨v, SX', SM', nc, ns, cX, cM, hR', hn, hz⟩ := p_soon (x_l X) (x_D X) qx gx qm gm (x_cy X) (x_z X) hR (xs (i + 1).toNatClampNeg) (xs (i + 2).toNatClampNeg) (xs (i + 3).toNatClampNeg)
  have hlen : lenS SX' ≤ 120000 := by
    obtain ⟨st, w, _⟩ := hR'
    exact lenS_le w
  refine gn_aload_n (pc' := 1017) h dL_law_1016 rfl rfl ?_
  refine gn_sarg (pc' := 1022) h hX hbl hbA (1 : Int32) rfl rfl dL_law_1017 dL_law_1018 dL_law_1019 dL_law_1020 dL_law_1021 (by decide) h1 rfl ?_
  refine gn_sarg (pc' := 1027) h hX hbl hbA (2 : Int32) rfl rfl dL_law_1022 dL_law_1023 dL_law_1024 dL_law_1025 dL_law_1026 (by decide) h2 rfl ?_
  refine gn_sarg (pc' := 1032) h hX hbl hbA (3 : Int32) rfl rfl dL_law_1027 dL_law_1028 dL_law_1029 dL_law_1030 dL_law_1031 (by decide) h3 rfl ?_
  refine gn_callX (lay := layX) (q := qx) (g := gx) (S := SX) (rest := wd_ws qm gm (x_cy X) SM 0 layM) (n := 3) (b := 0) (C := RX11) (As := [.int (xs (i + 1).toNatClampNeg), .int (xs (i + 2).toNatClampNeg), .int (xs (i + 3).toNatClampNeg)]) (st := []) (pc' := 1035) (st' := [.int v]) (cells' := (c + nc)) (slots' := (s + ns)) h dL_law_1032 ⟨mw_1332, mw_1335, mw_2, ⟨by decide +kernel, by decide +kernel⟩, by decide +kernel, Nat.le_of_ble_eq_true rfl, Nat.le_of_ble_eq_true rfl, (show c + 40 ≤ 600000 by omega), (show s + 500000 ≤ 7302250 by omega)⟩ mw_1333 mw_1334 rfl rfl rfl rfl (Nat.le_of_ble_eq_true rfl) cX rfl rfl rfl rfl (fun gx' _ => ?_)
  refine gn_swap ?_
  refine gn_aload_n (pc' := 1036) h dL_law_1035 rfl rfl ?_
  refine gn_sarg (pc' := 1041) h hX hbl hbA (1 : Int32) rfl rfl dL_law_1036 dL_law_1037 dL_law_1038 dL_law_1039 dL_law_1040 (by decide) h1 rfl ?_
  refine gn_sarg (pc' := 1046) h hX hbl hbA (2 : Int32) rfl rfl dL_law_1041 dL_law_1042 dL_law_1043 dL_law_1044 dL_law_1045 (by decide) h2 rfl ?_
  refine gn_sarg (pc' := 1051) h hX hbl hbA (3 : Int32) rfl rfl dL_law_1046 dL_law_1047 dL_law_1048 dL_law_1049 dL_law_1050 (by decide) h3 rfl ?_
  refine gn_callX (lay := layM) (q := qm) (g := gm) (S := SM) (rest := wd_ws qx gx' (x_cy X) SX' 0 layX) (n := 3) (b := 0) (C := RX12) (As := [.int (xs (i + 1).toNatClampNeg), .int (xs (i + 2).toNatClampNeg), .int (xs (i + 3).toNatClampNeg)]) (st := [.int v]) (pc' := 1054) (st' := [.int v, .int v]) (cells' := (c + nc + 0)) (slots' := (s + ns + 0)) h dL_law_1051 ⟨mw_1337, mw_1340, mw_5, ⟨by decide +kernel, by decide +kernel⟩, by decide +kernel, Nat.le_of_ble_eq_true rfl, Nat.le_of_ble_eq_true rfl, (show c + nc + 0 ≤ 600000 by omega), (show s + ns + 0 ≤ 7302250 by omega)⟩ mw_1338 mw_1339 rfl rfl rfl rfl (Nat.le_of_ble_eq_true rfl) cM rfl rfl rfl rfl (fun gm' _ => ?_)
  refine gn_swap ?_
  exact gn_icmp_eq (tgt := 1379) (pc' := 1057) h dL_law_1054 (by decide) rfl (fun _ => (K gx' gm' SX' SM' (c + nc + 0) (s + ns + 0) hR' (by omega) (by omega))) (fun q => absurd rfl q)
set_option maxHeartbeats 4000000 in
theorem law_draw {X : XT} {rt : Option FieldType} (h : NC X cL_law RL 4 rt room_1) {b L : Nat} {xs : Nat → Int32} (hX : va_X b L xs (x_s X) (x_s X).heap) (hbl : b < (x_s X).heap.size) (hbA : ¬ (x_A X) b) {qx qm gx gm : Nat → Nat} {SX SM : wd_W} {c s : Nat} {i : Int32} (hR : RW SX SM) (hc : c + 80 ≤ 600000) (hs : s + 1000000 ≤ 7302250) (h1 : vp_in (i + 1) L) (h2 : vp_in (i + 2) L) (h3 : vp_in (i + 3) L) (h4 : vp_in (i + 4) L) (h5 : vp_in (i + 5) L) (K : LK X qx qm b i SX c s) : GN X (wd_ws qx gx (x_cy X) SX 0 layX ++ wd_ws qm gm (x_cy X) SM 0 layM) 1059 [(0, .ref b), (1, .ref (qx 0)), (2, .ref (qm 0)), (3, .int i)] [] c s := by
  obtain ⟨v, SX', SM', nc, ns, cX, cM, hR', hn, hz⟩ := p_draw (x_l X) (x_D X) qx gx qm gm (x_cy X) (x_z X) hR (xs (i + 1).toNatClampNeg) (xs (i + 2).toNatClampNeg)
  have hlen : lenS SX' ≤ 120000 := by
    obtain ⟨st, w, _⟩ := hR'
    exact lenS_le w
  refine gn_aload_n (pc' := 1060) h dL_law_1059 rfl rfl ?_
  refine gn_sarg (pc' := 1065) h hX hbl hbA (1 : Int32) rfl rfl dL_law_1060 dL_law_1061 dL_law_1062 dL_law_1063 dL_law_1064 (by decide) h1 rfl ?_
  refine gn_sarg (pc' := 1070) h hX hbl hbA (2 : Int32) rfl rfl dL_law_1065 dL_law_1066 dL_law_1067 dL_law_1068 dL_law_1069 (by decide) h2 rfl ?_
  refine gn_callX (lay := layX) (q := qx) (g := gx) (S := SX) (rest := wd_ws qm gm (x_cy X) SM 0 layM) (n := 2) (b := 0) (C := RX11) (As := [.int (xs (i + 1).toNatClampNeg), .int (xs (i + 2).toNatClampNeg)]) (st := []) (pc' := 1073) (st' := [.int v]) (cells' := (c + nc)) (slots' := (s + ns)) h dL_law_1070 ⟨mw_1341, mw_1344, mw_2, ⟨by decide +kernel, by decide +kernel⟩, by decide +kernel, Nat.le_of_ble_eq_true rfl, Nat.le_of_ble_eq_true rfl, (show c + 40 ≤ 600000 by omega), (show s + 500000 ≤ 7302250 by omega)⟩ mw_1342 mw_1343 rfl rfl rfl rfl (Nat.le_of_ble_eq_true rfl) cX rfl rfl rfl rfl (fun gx' _ => ?_)
  refine gn_swap ?_
  refine gn_aload_n (pc' := 1074) h dL_law_1073 rfl rfl ?_
  refine gn_sarg (pc' := 1079) h hX hbl hbA (1 : Int32) rfl rfl dL_law_1074 dL_law_1075 dL_law_1076 dL_law_1077 dL_law_1078 (by decide) h1 rfl ?_
  refine gn_sarg (pc' := 1084) h hX hbl hbA (2 : Int32) rfl rfl dL_law_1079 dL_law_1080 dL_law_1081 dL_law_1082 dL_law_1083 (by decide) h2 rfl ?_
  refine gn_callX (lay := layM) (q := qm) (g := gm) (S := SM) (rest := wd_ws qx gx' (x_cy X) SX' 0 layX) (n := 2) (b := 0) (C := RX12) (As := [.int (xs (i + 1).toNatClampNeg), .int (xs (i + 2).toNatClampNeg)]) (st := [.int v]) (pc' := 1087) (st' := [.int v, .int v]) (cells' := (c + nc + 0)) (slots' := (s + ns + 0)) h dL_law_1084 ⟨mw_1353, mw_1356, mw_5, ⟨by decide +kernel, by decide +kernel⟩, by decide +kernel, Nat.le_of_ble_eq_true rfl, Nat.le_of_ble_eq_true rfl, (show c + nc + 0 ≤ 600000 by omega), (show s + ns + 0 ≤ 7302250 by omega)⟩ mw_1354 mw_1355 rfl rfl rfl rfl (Nat.le_of_ble_eq_true rfl) cM rfl rfl rfl rfl (fun gm' _ => ?_)
  refine gn_swap ?_
  exact gn_icmp_eq (tgt := 1379) (pc' := 1090) h dL_law_1087 (by decide) rfl (fun _ => (K gx' gm' SX' SM' (c + nc + 0) (s + ns + 0) hR' (by omega) (by omega))) (fun q => absurd rfl q)
set_option maxHeartbeats 4000000 in
theorem law_joined {X : XT} {rt : Option FieldType} (h : NC X cL_law RL 4 rt room_1) {b L : Nat} {xs : Nat → Int32} (hX : va_X b L xs (x_s X) (x_s X).heap) (hbl : b < (x_s X).heap.size) (hbA : ¬ (x_A X) b) {qx qm gx gm : Nat → Nat} {SX SM : wd_W} {c s : Nat} {i : Int32} (hR : RW SX SM) (hc : c + 80 ≤ 600000) (hs : s + 1000000 ≤ 7302250) (h1 : vp_in (i + 1) L) (h2 : vp_in (i + 2) L) (h3 : vp_in (i + 3) L) (h4 : vp_in (i + 4) L) (h5 : vp_in (i + 5) L) (K : LK X qx qm b i SX c s) : GN X (wd_ws qx gx (x_cy X) SX 0 layX ++ wd_ws qm gm (x_cy X) SM 0 layM) 1092 [(0, .ref b), (1, .ref (qx 0)), (2, .ref (qm 0)), (3, .int i)] [] c s := by
  obtain ⟨v, SX', SM', nc, ns, cX, cM, hR', hn, hz⟩ := p_joined (x_l X) (x_D X) qx gx qm gm (x_cy X) (x_z X) hR (xs (i + 1).toNatClampNeg) (xs (i + 2).toNatClampNeg)
  have hlen : lenS SX' ≤ 120000 := by
    obtain ⟨st, w, _⟩ := hR'
    exact lenS_le w
  refine gn_aload_n (pc' := 1093) h dL_law_1092 rfl rfl ?_
  refine gn_sarg (pc' := 1098) h hX hbl hbA (1 : Int32) rfl rfl dL_law_1093 dL_law_1094 dL_law_1095 dL_law_1096 dL_law_1097 (by decide) h1 rfl ?_
  refine gn_sarg (pc' := 1103) h hX hbl hbA (2 : Int32) rfl rfl dL_law_1098 dL_law_1099 dL_law_1100 dL_law_1101 dL_law_1102 (by decide) h2 rfl ?_
  refine gn_callX (lay := layX) (q := qx) (g := gx) (S := SX) (rest := wd_ws qm gm (x_cy X) SM 0 layM) (n := 2) (b := 0) (C := RX11) (As := [.int (xs (i + 1).toNatClampNeg), .int (xs (i + 2).toNatClampNeg)]) (st := []) (pc' := 1106) (st' := [.int v]) (cells' := (c + nc)) (slots' := (s + ns)) h dL_law_1103 ⟨mw_1362, mw_1365, mw_2, ⟨by decide +kernel, by decide +kernel⟩, by decide +kernel, Nat.le_of_ble_eq_true rfl, Nat.le_of_ble_eq_true rfl, (show c + 40 ≤ 600000 by omega), (show s + 500000 ≤ 7302250 by omega)⟩ mw_1363 mw_1364 rfl rfl rfl rfl (Nat.le_of_ble_eq_true rfl) cX rfl rfl rfl rfl (fun gx' _ => ?_)
  refine gn_swap ?_
  refine gn_aload_n (pc' := 1107) h dL_law_1106 rfl rfl ?_
  refine gn_sarg (pc' := 1112) h hX hbl hbA (1 : Int32) rfl rfl dL_law_1107 dL_law_1108 dL_law_1109 dL_law_1110 dL_law_1111 (by decide) h1 rfl ?_
  refine gn_sarg (pc' := 1117) h hX hbl hbA (2 : Int32) rfl rfl dL_law_1112 dL_law_1113 dL_law_1114 dL_law_1115 dL_law_1116 (by decide) h2 rfl ?_
  refine gn_callX (lay := layM) (q := qm) (g := gm) (S := SM) (rest := wd_ws qx gx' (x_cy X) SX' 0 layX) (n := 2) (b := 0) (C := RX12) (As := [.int (xs (i + 1).toNatClampNeg), .int (xs (i + 2).toNatClampNeg)]) (st := [.int v]) (pc' := 1120) (st' := [.int v, .int v]) (cells' := (c + nc + 0)) (slots' := (s + ns + 0)) h dL_law_1117 ⟨mw_1375, mw_1378, mw_5, ⟨by decide +kernel, by decide +kernel⟩, by decide +kernel, Nat.le_of_ble_eq_true rfl, Nat.le_of_ble_eq_true rfl, (show c + nc + 0 ≤ 600000 by omega), (show s + ns + 0 ≤ 7302250 by omega)⟩ mw_1376 mw_1377 rfl rfl rfl rfl (Nat.le_of_ble_eq_true rfl) cM rfl rfl rfl rfl (fun gm' _ => ?_)
  refine gn_swap ?_
  exact gn_icmp_eq (tgt := 1379) (pc' := 1123) h dL_law_1120 (by decide) rfl (fun _ => (K gx' gm' SX' SM' (c + nc + 0) (s + ns + 0) hR' (by omega) (by omega))) (fun q => absurd rfl q)
set_option maxHeartbeats 4000000 in
theorem law_alone {X : XT} {rt : Option FieldType} (h : NC X cL_law RL 4 rt room_1) {b L : Nat} {xs : Nat → Int32} (hX : va_X b L xs (x_s X) (x_s X).heap) (hbl : b < (x_s X).heap.size) (hbA : ¬ (x_A X) b) {qx qm gx gm : Nat → Nat} {SX SM : wd_W} {c s : Nat} {i : Int32} (hR : RW SX SM) (hc : c + 80 ≤ 600000) (hs : s + 1000000 ≤ 7302250) (h1 : vp_in (i + 1) L) (h2 : vp_in (i + 2) L) (h3 : vp_in (i + 3) L) (h4 : vp_in (i + 4) L) (h5 : vp_in (i + 5) L) (K : LK X qx qm b i SX c s) : GN X (wd_ws qx gx (x_cy X) SX 0 layX ++ wd_ws qm gm (x_cy X) SM 0 layM) 1125 [(0, .ref b), (1, .ref (qx 0)), (2, .ref (qm 0)), (3, .int i)] [] c s := by
  obtain ⟨v, SX', SM', nc, ns, cX, cM, hR', hn, hz⟩ := p_alone (x_l X) (x_D X) qx gx qm gm (x_cy X) (x_z X) hR (xs (i + 1).toNatClampNeg)
  have hlen : lenS SX' ≤ 120000 := by
    obtain ⟨st, w, _⟩ := hR'
    exact lenS_le w
  refine gn_aload_n (pc' := 1126) h dL_law_1125 rfl rfl ?_
  refine gn_sarg (pc' := 1131) h hX hbl hbA (1 : Int32) rfl rfl dL_law_1126 dL_law_1127 dL_law_1128 dL_law_1129 dL_law_1130 (by decide) h1 rfl ?_
  refine gn_callX (lay := layX) (q := qx) (g := gx) (S := SX) (rest := wd_ws qm gm (x_cy X) SM 0 layM) (n := 1) (b := 0) (C := RX11) (As := [.int (xs (i + 1).toNatClampNeg)]) (st := []) (pc' := 1134) (st' := [.long v]) (cells' := (c + nc)) (slots' := (s + ns)) h dL_law_1131 ⟨mw_1396, mw_1399, mw_2, ⟨by decide +kernel, by decide +kernel⟩, by decide +kernel, Nat.le_of_ble_eq_true rfl, Nat.le_of_ble_eq_true rfl, (show c + 40 ≤ 600000 by omega), (show s + 500000 ≤ 7302250 by omega)⟩ mw_1397 mw_1398 rfl rfl rfl rfl (Nat.le_of_ble_eq_true rfl) cX rfl rfl rfl rfl (fun gx' _ => ?_)
  refine gn_swap ?_
  refine gn_aload_n (pc' := 1135) h dL_law_1134 rfl rfl ?_
  refine gn_sarg (pc' := 1140) h hX hbl hbA (1 : Int32) rfl rfl dL_law_1135 dL_law_1136 dL_law_1137 dL_law_1138 dL_law_1139 (by decide) h1 rfl ?_
  refine gn_callX (lay := layM) (q := qm) (g := gm) (S := SM) (rest := wd_ws qx gx' (x_cy X) SX' 0 layX) (n := 1) (b := 0) (C := RX12) (As := [.int (xs (i + 1).toNatClampNeg)]) (st := [.long v]) (pc' := 1143) (st' := [.long v, .long v]) (cells' := (c + nc + 0)) (slots' := (s + ns + 0)) h dL_law_1140 ⟨mw_1414, mw_1417, mw_5, ⟨by decide +kernel, by decide +kernel⟩, by decide +kernel, Nat.le_of_ble_eq_true rfl, Nat.le_of_ble_eq_true rfl, (show c + nc + 0 ≤ 600000 by omega), (show s + ns + 0 ≤ 7302250 by omega)⟩ mw_1415 mw_1416 rfl rfl rfl rfl (Nat.le_of_ble_eq_true rfl) cM rfl rfl rfl rfl (fun gm' _ => ?_)
  refine gn_swap ?_
  refine gn_lcmp (pc' := 1144) h dL_law_1143 rfl ?_
  exact gn_if_eq (tgt := 1379) (pc' := 1147) h dL_law_1144 (by decide) rfl (fun _ => (K gx' gm' SX' SM' (c + nc + 0) (s + ns + 0) hR' (by omega) (by omega))) (fun q => absurd ((lg_cmp_eq v v).mpr rfl) q)
set_option maxHeartbeats 4000000 in
theorem law_alike {X : XT} {rt : Option FieldType} (h : NC X cL_law RL 4 rt room_1) {b L : Nat} {xs : Nat → Int32} (hX : va_X b L xs (x_s X) (x_s X).heap) (hbl : b < (x_s X).heap.size) (hbA : ¬ (x_A X) b) {qx qm gx gm : Nat → Nat} {SX SM : wd_W} {c s : Nat} {i : Int32} (hR : RW SX SM) (hc : c + 80 ≤ 600000) (hs : s + 1000000 ≤ 7302250) (h1 : vp_in (i + 1) L) (h2 : vp_in (i + 2) L) (h3 : vp_in (i + 3) L) (h4 : vp_in (i + 4) L) (h5 : vp_in (i + 5) L) (K : LK X qx qm b i SX c s) : GN X (wd_ws qx gx (x_cy X) SX 0 layX ++ wd_ws qm gm (x_cy X) SM 0 layM) 1149 [(0, .ref b), (1, .ref (qx 0)), (2, .ref (qm 0)), (3, .int i)] [] c s := by
  obtain ⟨v, SX', SM', nc, ns, cX, cM, hR', hn, hz⟩ := p_alike (x_l X) (x_D X) qx gx qm gm (x_cy X) (x_z X) hR (xs (i + 1).toNatClampNeg)
  have hlen : lenS SX' ≤ 120000 := by
    obtain ⟨st, w, _⟩ := hR'
    exact lenS_le w
  refine gn_aload_n (pc' := 1150) h dL_law_1149 rfl rfl ?_
  refine gn_sarg (pc' := 1155) h hX hbl hbA (1 : Int32) rfl rfl dL_law_1150 dL_law_1151 dL_law_1152 dL_law_1153 dL_law_1154 (by decide) h1 rfl ?_
  refine gn_callX (lay := layX) (q := qx) (g := gx) (S := SX) (rest := wd_ws qm gm (x_cy X) SM 0 layM) (n := 1) (b := 0) (C := RX11) (As := [.int (xs (i + 1).toNatClampNeg)]) (st := []) (pc' := 1158) (st' := [.long v]) (cells' := (c + nc)) (slots' := (s + ns)) h dL_law_1155 ⟨mw_1431, mw_1434, mw_2, ⟨by decide +kernel, by decide +kernel⟩, by decide +kernel, Nat.le_of_ble_eq_true rfl, Nat.le_of_ble_eq_true rfl, (show c + 40 ≤ 600000 by omega), (show s + 500000 ≤ 7302250 by omega)⟩ mw_1432 mw_1433 rfl rfl rfl rfl (Nat.le_of_ble_eq_true rfl) cX rfl rfl rfl rfl (fun gx' _ => ?_)
  refine gn_swap ?_
  refine gn_aload_n (pc' := 1159) h dL_law_1158 rfl rfl ?_
  refine gn_sarg (pc' := 1164) h hX hbl hbA (1 : Int32) rfl rfl dL_law_1159 dL_law_1160 dL_law_1161 dL_law_1162 dL_law_1163 (by decide) h1 rfl ?_
  refine gn_callX (lay := layM) (q := qm) (g := gm) (S := SM) (rest := wd_ws qx gx' (x_cy X) SX' 0 layX) (n := 1) (b := 0) (C := RX12) (As := [.int (xs (i + 1).toNatClampNeg)]) (st := [.long v]) (pc' := 1167) (st' := [.long v, .long v]) (cells' := (c + nc + 0)) (slots' := (s + ns + 0)) h dL_law_1164 ⟨mw_1438, mw_1441, mw_5, ⟨by decide +kernel, by decide +kernel⟩, by decide +kernel, Nat.le_of_ble_eq_true rfl, Nat.le_of_ble_eq_true rfl, (show c + nc + 0 ≤ 600000 by omega), (show s + ns + 0 ≤ 7302250 by omega)⟩ mw_1439 mw_1440 rfl rfl rfl rfl (Nat.le_of_ble_eq_true rfl) cM rfl rfl rfl rfl (fun gm' _ => ?_)
  refine gn_swap ?_
  refine gn_lcmp (pc' := 1168) h dL_law_1167 rfl ?_
  exact gn_if_eq (tgt := 1379) (pc' := 1171) h dL_law_1168 (by decide) rfl (fun _ => (K gx' gm' SX' SM' (c + nc + 0) (s + ns + 0) hR' (by omega) (by omega))) (fun q => absurd ((lg_cmp_eq v v).mpr rfl) q)
set_option maxHeartbeats 4000000 in
theorem law_even {X : XT} {rt : Option FieldType} (h : NC X cL_law RL 4 rt room_1) {b L : Nat} {xs : Nat → Int32} (hX : va_X b L xs (x_s X) (x_s X).heap) (hbl : b < (x_s X).heap.size) (hbA : ¬ (x_A X) b) {qx qm gx gm : Nat → Nat} {SX SM : wd_W} {c s : Nat} {i : Int32} (hR : RW SX SM) (hc : c + 80 ≤ 600000) (hs : s + 1000000 ≤ 7302250) (h1 : vp_in (i + 1) L) (h2 : vp_in (i + 2) L) (h3 : vp_in (i + 3) L) (h4 : vp_in (i + 4) L) (h5 : vp_in (i + 5) L) (K : LK X qx qm b i SX c s) : GN X (wd_ws qx gx (x_cy X) SX 0 layX ++ wd_ws qm gm (x_cy X) SM 0 layM) 1173 [(0, .ref b), (1, .ref (qx 0)), (2, .ref (qm 0)), (3, .int i)] [] c s := by
  obtain ⟨v, SX', SM', nc, ns, cX, cM, hR', hn, hz⟩ := p_even (x_l X) (x_D X) qx gx qm gm (x_cy X) (x_z X) hR
  have hlen : lenS SX' ≤ 120000 := by
    obtain ⟨st, w, _⟩ := hR'
    exact lenS_le w
  refine gn_aload_n (pc' := 1174) h dL_law_1173 rfl rfl ?_
  refine gn_callX (lay := layX) (q := qx) (g := gx) (S := SX) (rest := wd_ws qm gm (x_cy X) SM 0 layM) (n := 0) (b := 0) (C := RX11) (As := []) (st := []) (pc' := 1177) (st' := [.int v]) (cells' := (c + nc)) (slots' := (s + ns)) h dL_law_1174 ⟨mw_1443, mw_1446, mw_2, ⟨by decide +kernel, by decide +kernel⟩, by decide +kernel, Nat.le_of_ble_eq_true rfl, Nat.le_of_ble_eq_true rfl, (show c + 40 ≤ 600000 by omega), (show s + 500000 ≤ 7302250 by omega)⟩ mw_1444 mw_1445 rfl rfl rfl rfl (Nat.le_of_ble_eq_true rfl) cX rfl rfl rfl rfl (fun gx' _ => ?_)
  refine gn_swap ?_
  refine gn_aload_n (pc' := 1178) h dL_law_1177 rfl rfl ?_
  refine gn_callX (lay := layM) (q := qm) (g := gm) (S := SM) (rest := wd_ws qx gx' (x_cy X) SX' 0 layX) (n := 0) (b := 0) (C := RX12) (As := []) (st := [.int v]) (pc' := 1181) (st' := [.int v, .int v]) (cells' := (c + nc + 0)) (slots' := (s + ns + 0)) h dL_law_1178 ⟨mw_1447, mw_1450, mw_5, ⟨by decide +kernel, by decide +kernel⟩, by decide +kernel, Nat.le_of_ble_eq_true rfl, Nat.le_of_ble_eq_true rfl, (show c + nc + 0 ≤ 600000 by omega), (show s + ns + 0 ≤ 7302250 by omega)⟩ mw_1448 mw_1449 rfl rfl rfl rfl (Nat.le_of_ble_eq_true rfl) cM rfl rfl rfl rfl (fun gm' _ => ?_)
  refine gn_swap ?_
  exact gn_icmp_eq (tgt := 1379) (pc' := 1184) h dL_law_1181 (by decide) rfl (fun _ => (K gx' gm' SX' SM' (c + nc + 0) (s + ns + 0) hR' (by omega) (by omega))) (fun q => absurd rfl q)
set_option maxHeartbeats 4000000 in
theorem law_trees {X : XT} {rt : Option FieldType} (h : NC X cL_law RL 4 rt room_1) {b L : Nat} {xs : Nat → Int32} (hX : va_X b L xs (x_s X) (x_s X).heap) (hbl : b < (x_s X).heap.size) (hbA : ¬ (x_A X) b) {qx qm gx gm : Nat → Nat} {SX SM : wd_W} {c s : Nat} {i : Int32} (hR : RW SX SM) (hc : c + 80 ≤ 600000) (hs : s + 1000000 ≤ 7302250) (h1 : vp_in (i + 1) L) (h2 : vp_in (i + 2) L) (h3 : vp_in (i + 3) L) (h4 : vp_in (i + 4) L) (h5 : vp_in (i + 5) L) (K : LK X qx qm b i SX c s) : GN X (wd_ws qx gx (x_cy X) SX 0 layX ++ wd_ws qm gm (x_cy X) SM 0 layM) 1186 [(0, .ref b), (1, .ref (qx 0)), (2, .ref (qm 0)), (3, .int i)] [] c s := by
  obtain ⟨v, SX', SM', nc, ns, cX, cM, hR', hn, hz⟩ := p_trees (x_l X) (x_D X) qx gx qm gm (x_cy X) (x_z X) hR
  have hlen : lenS SX' ≤ 120000 := by
    obtain ⟨st, w, _⟩ := hR'
    exact lenS_le w
  refine gn_aload_n (pc' := 1187) h dL_law_1186 rfl rfl ?_
  refine gn_callX (lay := layX) (q := qx) (g := gx) (S := SX) (rest := wd_ws qm gm (x_cy X) SM 0 layM) (n := 0) (b := 0) (C := RX11) (As := []) (st := []) (pc' := 1190) (st' := [.int v]) (cells' := (c + nc)) (slots' := (s + ns)) h dL_law_1187 ⟨mw_1451, mw_1454, mw_2, ⟨by decide +kernel, by decide +kernel⟩, by decide +kernel, Nat.le_of_ble_eq_true rfl, Nat.le_of_ble_eq_true rfl, (show c + 40 ≤ 600000 by omega), (show s + 500000 ≤ 7302250 by omega)⟩ mw_1452 mw_1453 rfl rfl rfl rfl (Nat.le_of_ble_eq_true rfl) cX rfl rfl rfl rfl (fun gx' _ => ?_)
  refine gn_swap ?_
  refine gn_aload_n (pc' := 1191) h dL_law_1190 rfl rfl ?_
  refine gn_callX (lay := layM) (q := qm) (g := gm) (S := SM) (rest := wd_ws qx gx' (x_cy X) SX' 0 layX) (n := 0) (b := 0) (C := RX12) (As := []) (st := [.int v]) (pc' := 1194) (st' := [.int v, .int v]) (cells' := (c + nc + 0)) (slots' := (s + ns + 0)) h dL_law_1191 ⟨mw_1459, mw_1462, mw_5, ⟨by decide +kernel, by decide +kernel⟩, by decide +kernel, Nat.le_of_ble_eq_true rfl, Nat.le_of_ble_eq_true rfl, (show c + nc + 0 ≤ 600000 by omega), (show s + ns + 0 ≤ 7302250 by omega)⟩ mw_1460 mw_1461 rfl rfl rfl rfl (Nat.le_of_ble_eq_true rfl) cM rfl rfl rfl rfl (fun gm' _ => ?_)
  refine gn_swap ?_
  exact gn_icmp_eq (tgt := 1379) (pc' := 1197) h dL_law_1194 (by decide) rfl (fun _ => (K gx' gm' SX' SM' (c + nc + 0) (s + ns + 0) hR' (by omega) (by omega))) (fun q => absurd rfl q)
set_option maxHeartbeats 4000000 in
theorem law_looks {X : XT} {rt : Option FieldType} (h : NC X cL_law RL 4 rt room_1) {b L : Nat} {xs : Nat → Int32} (hX : va_X b L xs (x_s X) (x_s X).heap) (hbl : b < (x_s X).heap.size) (hbA : ¬ (x_A X) b) {qx qm gx gm : Nat → Nat} {SX SM : wd_W} {c s : Nat} {i : Int32} (hR : RW SX SM) (hc : c + 80 ≤ 600000) (hs : s + 1000000 ≤ 7302250) (h1 : vp_in (i + 1) L) (h2 : vp_in (i + 2) L) (h3 : vp_in (i + 3) L) (h4 : vp_in (i + 4) L) (h5 : vp_in (i + 5) L) (K : LK X qx qm b i SX c s) : GN X (wd_ws qx gx (x_cy X) SX 0 layX ++ wd_ws qm gm (x_cy X) SM 0 layM) 1199 [(0, .ref b), (1, .ref (qx 0)), (2, .ref (qm 0)), (3, .int i)] [] c s := by
  obtain ⟨v, SX', SM', nc, ns, cX, cM, hR', hn, hz⟩ := p_looks (x_l X) (x_D X) qx gx qm gm (x_cy X) (x_z X) hR (xs (i + 1).toNatClampNeg)
  have hlen : lenS SX' ≤ 120000 := by
    obtain ⟨st, w, _⟩ := hR'
    exact lenS_le w
  refine gn_aload_n (pc' := 1200) h dL_law_1199 rfl rfl ?_
  refine gn_sarg (pc' := 1205) h hX hbl hbA (1 : Int32) rfl rfl dL_law_1200 dL_law_1201 dL_law_1202 dL_law_1203 dL_law_1204 (by decide) h1 rfl ?_
  refine gn_callX (lay := layX) (q := qx) (g := gx) (S := SX) (rest := wd_ws qm gm (x_cy X) SM 0 layM) (n := 1) (b := 0) (C := RX11) (As := [.int (xs (i + 1).toNatClampNeg)]) (st := []) (pc' := 1208) (st' := [.int v]) (cells' := (c + nc)) (slots' := (s + ns)) h dL_law_1205 ⟨mw_1467, mw_1470, mw_2, ⟨by decide +kernel, by decide +kernel⟩, by decide +kernel, Nat.le_of_ble_eq_true rfl, Nat.le_of_ble_eq_true rfl, (show c + 40 ≤ 600000 by omega), (show s + 500000 ≤ 7302250 by omega)⟩ mw_1468 mw_1469 rfl rfl rfl rfl (Nat.le_of_ble_eq_true rfl) cX rfl rfl rfl rfl (fun gx' _ => ?_)
  refine gn_swap ?_
  refine gn_aload_n (pc' := 1209) h dL_law_1208 rfl rfl ?_
  refine gn_sarg (pc' := 1214) h hX hbl hbA (1 : Int32) rfl rfl dL_law_1209 dL_law_1210 dL_law_1211 dL_law_1212 dL_law_1213 (by decide) h1 rfl ?_
  refine gn_callX (lay := layM) (q := qm) (g := gm) (S := SM) (rest := wd_ws qx gx' (x_cy X) SX' 0 layX) (n := 1) (b := 0) (C := RX12) (As := [.int (xs (i + 1).toNatClampNeg)]) (st := [.int v]) (pc' := 1217) (st' := [.int v, .int v]) (cells' := (c + nc + 0)) (slots' := (s + ns + 0)) h dL_law_1214 ⟨mw_1479, mw_1482, mw_5, ⟨by decide +kernel, by decide +kernel⟩, by decide +kernel, Nat.le_of_ble_eq_true rfl, Nat.le_of_ble_eq_true rfl, (show c + nc + 0 ≤ 600000 by omega), (show s + ns + 0 ≤ 7302250 by omega)⟩ mw_1480 mw_1481 rfl rfl rfl rfl (Nat.le_of_ble_eq_true rfl) cM rfl rfl rfl rfl (fun gm' _ => ?_)
  refine gn_swap ?_
  exact gn_icmp_eq (tgt := 1379) (pc' := 1220) h dL_law_1217 (by decide) rfl (fun _ => (K gx' gm' SX' SM' (c + nc + 0) (s + ns + 0) hR' (by omega) (by omega))) (fun q => absurd rfl q)
set_option maxHeartbeats 4000000 in
theorem law_mean {X : XT} {rt : Option FieldType} (h : NC X cL_law RL 4 rt room_1) {b L : Nat} {xs : Nat → Int32} (hX : va_X b L xs (x_s X) (x_s X).heap) (hbl : b < (x_s X).heap.size) (hbA : ¬ (x_A X) b) {qx qm gx gm : Nat → Nat} {SX SM : wd_W} {c s : Nat} {i : Int32} (hR : RW SX SM) (hc : c + 80 ≤ 600000) (hs : s + 1000000 ≤ 7302250) (h1 : vp_in (i + 1) L) (h2 : vp_in (i + 2) L) (h3 : vp_in (i + 3) L) (h4 : vp_in (i + 4) L) (h5 : vp_in (i + 5) L) (K : LK X qx qm b i SX c s) : GN X (wd_ws qx gx (x_cy X) SX 0 layX ++ wd_ws qm gm (x_cy X) SM 0 layM) 1222 [(0, .ref b), (1, .ref (qx 0)), (2, .ref (qm 0)), (3, .int i)] [] c s := by
  obtain ⟨v, SX', SM', nc, ns, cX, cM, hR', hn, hz⟩ := p_mean (x_l X) (x_D X) qx gx qm gm (x_cy X) (x_z X) hR (xs (i + 1).toNatClampNeg) (xs (i + 2).toNatClampNeg) (xs (i + 3).toNatClampNeg)
  have hlen : lenS SX' ≤ 120000 := by
    obtain ⟨st, w, _⟩ := hR'
    exact lenS_le w
  refine gn_aload_n (pc' := 1223) h dL_law_1222 rfl rfl ?_
  refine gn_sarg (pc' := 1228) h hX hbl hbA (1 : Int32) rfl rfl dL_law_1223 dL_law_1224 dL_law_1225 dL_law_1226 dL_law_1227 (by decide) h1 rfl ?_
  refine gn_sarg (pc' := 1233) h hX hbl hbA (2 : Int32) rfl rfl dL_law_1228 dL_law_1229 dL_law_1230 dL_law_1231 dL_law_1232 (by decide) h2 rfl ?_
  refine gn_sarg (pc' := 1238) h hX hbl hbA (3 : Int32) rfl rfl dL_law_1233 dL_law_1234 dL_law_1235 dL_law_1236 dL_law_1237 (by decide) h3 rfl ?_
  refine gn_callX (lay := layX) (q := qx) (g := gx) (S := SX) (rest := wd_ws qm gm (x_cy X) SM 0 layM) (n := 3) (b := 0) (C := RX11) (As := [.int (xs (i + 1).toNatClampNeg), .int (xs (i + 2).toNatClampNeg), .int (xs (i + 3).toNatClampNeg)]) (st := []) (pc' := 1241) (st' := [.long v]) (cells' := (c + nc)) (slots' := (s + ns)) h dL_law_1238 ⟨mw_1487, mw_1490, mw_2, ⟨by decide +kernel, by decide +kernel⟩, by decide +kernel, Nat.le_of_ble_eq_true rfl, Nat.le_of_ble_eq_true rfl, (show c + 40 ≤ 600000 by omega), (show s + 500000 ≤ 7302250 by omega)⟩ mw_1488 mw_1489 rfl rfl rfl rfl (Nat.le_of_ble_eq_true rfl) cX rfl rfl rfl rfl (fun gx' _ => ?_)
  refine gn_swap ?_
  refine gn_aload_n (pc' := 1242) h dL_law_1241 rfl rfl ?_
  refine gn_sarg (pc' := 1247) h hX hbl hbA (1 : Int32) rfl rfl dL_law_1242 dL_law_1243 dL_law_1244 dL_law_1245 dL_law_1246 (by decide) h1 rfl ?_
  refine gn_sarg (pc' := 1252) h hX hbl hbA (2 : Int32) rfl rfl dL_law_1247 dL_law_1248 dL_law_1249 dL_law_1250 dL_law_1251 (by decide) h2 rfl ?_
  refine gn_sarg (pc' := 1257) h hX hbl hbA (3 : Int32) rfl rfl dL_law_1252 dL_law_1253 dL_law_1254 dL_law_1255 dL_law_1256 (by decide) h3 rfl ?_
  refine gn_callX (lay := layM) (q := qm) (g := gm) (S := SM) (rest := wd_ws qx gx' (x_cy X) SX' 0 layX) (n := 3) (b := 0) (C := RX12) (As := [.int (xs (i + 1).toNatClampNeg), .int (xs (i + 2).toNatClampNeg), .int (xs (i + 3).toNatClampNeg)]) (st := [.long v]) (pc' := 1260) (st' := [.long v, .long v]) (cells' := (c + nc + 0)) (slots' := (s + ns + 0)) h dL_law_1257 ⟨mw_1495, mw_1498, mw_5, ⟨by decide +kernel, by decide +kernel⟩, by decide +kernel, Nat.le_of_ble_eq_true rfl, Nat.le_of_ble_eq_true rfl, (show c + nc + 0 ≤ 600000 by omega), (show s + ns + 0 ≤ 7302250 by omega)⟩ mw_1496 mw_1497 rfl rfl rfl rfl (Nat.le_of_ble_eq_true rfl) cM rfl rfl rfl rfl (fun gm' _ => ?_)
  refine gn_swap ?_
  refine gn_lcmp (pc' := 1261) h dL_law_1260 rfl ?_
  exact gn_if_eq (tgt := 1379) (pc' := 1264) h dL_law_1261 (by decide) rfl (fun _ => (K gx' gm' SX' SM' (c + nc + 0) (s + ns + 0) hR' (by omega) (by omega))) (fun q => absurd ((lg_cmp_eq v v).mpr rfl) q)
set_option maxHeartbeats 4000000 in
theorem law_differ {X : XT} {rt : Option FieldType} (h : NC X cL_law RL 4 rt room_1) {b L : Nat} {xs : Nat → Int32} (hX : va_X b L xs (x_s X) (x_s X).heap) (hbl : b < (x_s X).heap.size) (hbA : ¬ (x_A X) b) {qx qm gx gm : Nat → Nat} {SX SM : wd_W} {c s : Nat} {i : Int32} (hR : RW SX SM) (hc : c + 80 ≤ 600000) (hs : s + 1000000 ≤ 7302250) (h1 : vp_in (i + 1) L) (h2 : vp_in (i + 2) L) (h3 : vp_in (i + 3) L) (h4 : vp_in (i + 4) L) (h5 : vp_in (i + 5) L) (K : LK X qx qm b i SX c s) : GN X (wd_ws qx gx (x_cy X) SX 0 layX ++ wd_ws qm gm (x_cy X) SM 0 layM) 1266 [(0, .ref b), (1, .ref (qx 0)), (2, .ref (qm 0)), (3, .int i)] [] c s := by
  obtain ⟨v, SX', SM', nc, ns, cX, cM, hR', hn, hz⟩ := p_differ (x_l X) (x_D X) qx gx qm gm (x_cy X) (x_z X) hR (xs (i + 1).toNatClampNeg) (xs (i + 2).toNatClampNeg) (xs (i + 3).toNatClampNeg)
  have hlen : lenS SX' ≤ 120000 := by
    obtain ⟨st, w, _⟩ := hR'
    exact lenS_le w
  refine gn_aload_n (pc' := 1267) h dL_law_1266 rfl rfl ?_
  refine gn_sarg (pc' := 1272) h hX hbl hbA (1 : Int32) rfl rfl dL_law_1267 dL_law_1268 dL_law_1269 dL_law_1270 dL_law_1271 (by decide) h1 rfl ?_
  refine gn_sarg (pc' := 1277) h hX hbl hbA (2 : Int32) rfl rfl dL_law_1272 dL_law_1273 dL_law_1274 dL_law_1275 dL_law_1276 (by decide) h2 rfl ?_
  refine gn_sarg (pc' := 1282) h hX hbl hbA (3 : Int32) rfl rfl dL_law_1277 dL_law_1278 dL_law_1279 dL_law_1280 dL_law_1281 (by decide) h3 rfl ?_
  refine gn_callX (lay := layX) (q := qx) (g := gx) (S := SX) (rest := wd_ws qm gm (x_cy X) SM 0 layM) (n := 3) (b := 0) (C := RX11) (As := [.int (xs (i + 1).toNatClampNeg), .int (xs (i + 2).toNatClampNeg), .int (xs (i + 3).toNatClampNeg)]) (st := []) (pc' := 1285) (st' := [.long v]) (cells' := (c + nc)) (slots' := (s + ns)) h dL_law_1282 ⟨mw_1499, mw_1502, mw_2, ⟨by decide +kernel, by decide +kernel⟩, by decide +kernel, Nat.le_of_ble_eq_true rfl, Nat.le_of_ble_eq_true rfl, (show c + 40 ≤ 600000 by omega), (show s + 500000 ≤ 7302250 by omega)⟩ mw_1500 mw_1501 rfl rfl rfl rfl (Nat.le_of_ble_eq_true rfl) cX rfl rfl rfl rfl (fun gx' _ => ?_)
  refine gn_swap ?_
  refine gn_aload_n (pc' := 1286) h dL_law_1285 rfl rfl ?_
  refine gn_sarg (pc' := 1291) h hX hbl hbA (1 : Int32) rfl rfl dL_law_1286 dL_law_1287 dL_law_1288 dL_law_1289 dL_law_1290 (by decide) h1 rfl ?_
  refine gn_sarg (pc' := 1296) h hX hbl hbA (2 : Int32) rfl rfl dL_law_1291 dL_law_1292 dL_law_1293 dL_law_1294 dL_law_1295 (by decide) h2 rfl ?_
  refine gn_sarg (pc' := 1301) h hX hbl hbA (3 : Int32) rfl rfl dL_law_1296 dL_law_1297 dL_law_1298 dL_law_1299 dL_law_1300 (by decide) h3 rfl ?_
  refine gn_callX (lay := layM) (q := qm) (g := gm) (S := SM) (rest := wd_ws qx gx' (x_cy X) SX' 0 layX) (n := 3) (b := 0) (C := RX12) (As := [.int (xs (i + 1).toNatClampNeg), .int (xs (i + 2).toNatClampNeg), .int (xs (i + 3).toNatClampNeg)]) (st := [.long v]) (pc' := 1304) (st' := [.long v, .long v]) (cells' := (c + nc + 0)) (slots' := (s + ns + 0)) h dL_law_1301 ⟨mw_1503, mw_1506, mw_5, ⟨by decide +kernel, by decide +kernel⟩, by decide +kernel, Nat.le_of_ble_eq_true rfl, Nat.le_of_ble_eq_true rfl, (show c + nc + 0 ≤ 600000 by omega), (show s + ns + 0 ≤ 7302250 by omega)⟩ mw_1504 mw_1505 rfl rfl rfl rfl (Nat.le_of_ble_eq_true rfl) cM rfl rfl rfl rfl (fun gm' _ => ?_)
  refine gn_swap ?_
  refine gn_lcmp (pc' := 1305) h dL_law_1304 rfl ?_
  exact gn_if_eq (tgt := 1379) (pc' := 1308) h dL_law_1305 (by decide) rfl (fun _ => (K gx' gm' SX' SM' (c + nc + 0) (s + ns + 0) hR' (by omega) (by omega))) (fun q => absurd ((lg_cmp_eq v v).mpr rfl) q)
set_option maxHeartbeats 4000000 in
theorem law_image {X : XT} {rt : Option FieldType} (h : NC X cL_law RL 4 rt room_1) {b L : Nat} {xs : Nat → Int32} (hX : va_X b L xs (x_s X) (x_s X).heap) (hbl : b < (x_s X).heap.size) (hbA : ¬ (x_A X) b) {qx qm gx gm : Nat → Nat} {SX SM : wd_W} {c s : Nat} {i : Int32} (hR : RW SX SM) (hc : c + 80 ≤ 600000) (hs : s + 1000000 ≤ 7302250) (h1 : vp_in (i + 1) L) (h2 : vp_in (i + 2) L) (h3 : vp_in (i + 3) L) (h4 : vp_in (i + 4) L) (h5 : vp_in (i + 5) L) (K : LK X qx qm b i SX c s) : GN X (wd_ws qx gx (x_cy X) SX 0 layX ++ wd_ws qm gm (x_cy X) SM 0 layM) 1310 [(0, .ref b), (1, .ref (qx 0)), (2, .ref (qm 0)), (3, .int i)] [] c s := by
  obtain ⟨v, SX', SM', nc, ns, cX, cM, hR', hn, hz⟩ := p_image (x_l X) (x_D X) qx gx qm gm (x_cy X) (x_z X) hR (xs (i + 1).toNatClampNeg)
  have hlen : lenS SX' ≤ 120000 := by
    obtain ⟨st, w, _⟩ := hR'
    exact lenS_le w
  refine gn_aload_n (pc' := 1311) h dL_law_1310 rfl rfl ?_
  refine gn_sarg (pc' := 1316) h hX hbl hbA (1 : Int32) rfl rfl dL_law_1311 dL_law_1312 dL_law_1313 dL_law_1314 dL_law_1315 (by decide) h1 rfl ?_
  refine gn_callX (lay := layX) (q := qx) (g := gx) (S := SX) (rest := wd_ws qm gm (x_cy X) SM 0 layM) (n := 1) (b := 0) (C := RX11) (As := [.int (xs (i + 1).toNatClampNeg)]) (st := []) (pc' := 1319) (st' := [.int v]) (cells' := (c + nc)) (slots' := (s + ns)) h dL_law_1316 ⟨mw_1508, mw_1511, mw_2, ⟨by decide +kernel, by decide +kernel⟩, by decide +kernel, Nat.le_of_ble_eq_true rfl, Nat.le_of_ble_eq_true rfl, (show c + 0 ≤ 600000 by omega), (show s + 0 ≤ 7302250 by omega)⟩ mw_1509 mw_1510 rfl rfl rfl rfl (Nat.le_of_ble_eq_true rfl) cX rfl rfl rfl rfl (fun gx' _ => ?_)
  refine gn_swap ?_
  refine gn_aload_n (pc' := 1320) h dL_law_1319 rfl rfl ?_
  refine gn_sarg (pc' := 1325) h hX hbl hbA (1 : Int32) rfl rfl dL_law_1320 dL_law_1321 dL_law_1322 dL_law_1323 dL_law_1324 (by decide) h1 rfl ?_
  refine gn_callX (lay := layM) (q := qm) (g := gm) (S := SM) (rest := wd_ws qx gx' (x_cy X) SX' 0 layX) (n := 1) (b := 0) (C := RX12) (As := [.int (xs (i + 1).toNatClampNeg)]) (st := [.int v]) (pc' := 1328) (st' := [.int v, .int v]) (cells' := (c + nc + 0)) (slots' := (s + ns + 0)) h dL_law_1325 ⟨mw_1518, mw_1521, mw_5, ⟨by decide +kernel, by decide +kernel⟩, by decide +kernel, Nat.le_of_ble_eq_true rfl, Nat.le_of_ble_eq_true rfl, (show c + nc + 0 ≤ 600000 by omega), (show s + ns + 0 ≤ 7302250 by omega)⟩ mw_1519 mw_1520 rfl rfl rfl rfl (Nat.le_of_ble_eq_true rfl) cM rfl rfl rfl rfl (fun gm' _ => ?_)
  refine gn_swap ?_
  exact gn_icmp_eq (tgt := 1379) (pc' := 1331) h dL_law_1328 (by decide) rfl (fun _ => (K gx' gm' SX' SM' (c + nc + 0) (s + ns + 0) hR' (by omega) (by omega))) (fun q => absurd rfl q)
set_option maxHeartbeats 4000000 in
theorem law_restore {X : XT} {rt : Option FieldType} (h : NC X cL_law RL 4 rt room_1) {b L : Nat} {xs : Nat → Int32} (hX : va_X b L xs (x_s X) (x_s X).heap) (hbl : b < (x_s X).heap.size) (hbA : ¬ (x_A X) b) {qx qm gx gm : Nat → Nat} {SX SM : wd_W} {c s : Nat} {i : Int32} (hR : RW SX SM) (hc : c + 80 ≤ 600000) (hs : s + 1000000 ≤ 7302250) (h1 : vp_in (i + 1) L) (h2 : vp_in (i + 2) L) (h3 : vp_in (i + 3) L) (h4 : vp_in (i + 4) L) (h5 : vp_in (i + 5) L) (K : LK X qx qm b i SX c s) : GN X (wd_ws qx gx (x_cy X) SX 0 layX ++ wd_ws qm gm (x_cy X) SM 0 layM) 1333 [(0, .ref b), (1, .ref (qx 0)), (2, .ref (qm 0)), (3, .int i)] [] c s := by
  obtain ⟨v, SX', SM', nc, ns, cX, cM, hR', hn, hz⟩ := p_restore (x_l X) (x_D X) qx gx qm gm (x_cy X) (x_z X) hR (xs (i + 1).toNatClampNeg)
  have hlen : lenS SX' ≤ 120000 := by
    obtain ⟨st, w, _⟩ := hR'
    exact lenS_le w
  refine gn_aload_n (pc' := 1334) h dL_law_1333 rfl rfl ?_
  refine gn_sarg (pc' := 1339) h hX hbl hbA (1 : Int32) rfl rfl dL_law_1334 dL_law_1335 dL_law_1336 dL_law_1337 dL_law_1338 (by decide) h1 rfl ?_
  refine gn_callX (lay := layX) (q := qx) (g := gx) (S := SX) (rest := wd_ws qm gm (x_cy X) SM 0 layM) (n := 1) (b := 0) (C := RX11) (As := [.int (xs (i + 1).toNatClampNeg)]) (st := []) (pc' := 1342) (st' := [.int v]) (cells' := (c + nc)) (slots' := (s + ns)) h dL_law_1339 ⟨mw_1527, mw_1530, mw_2, ⟨by decide +kernel, by decide +kernel⟩, by decide +kernel, Nat.le_of_ble_eq_true rfl, Nat.le_of_ble_eq_true rfl, (show c + 0 ≤ 600000 by omega), (show s + 0 ≤ 7302250 by omega)⟩ mw_1528 mw_1529 rfl rfl rfl rfl (Nat.le_of_ble_eq_true rfl) cX rfl rfl rfl rfl (fun gx' _ => ?_)
  refine gn_swap ?_
  refine gn_aload_n (pc' := 1343) h dL_law_1342 rfl rfl ?_
  refine gn_sarg (pc' := 1348) h hX hbl hbA (1 : Int32) rfl rfl dL_law_1343 dL_law_1344 dL_law_1345 dL_law_1346 dL_law_1347 (by decide) h1 rfl ?_
  refine gn_callX (lay := layM) (q := qm) (g := gm) (S := SM) (rest := wd_ws qx gx' (x_cy X) SX' 0 layX) (n := 1) (b := 0) (C := RX12) (As := [.int (xs (i + 1).toNatClampNeg)]) (st := [.int v]) (pc' := 1351) (st' := [.int v, .int v]) (cells' := (c + nc + 0)) (slots' := (s + ns + 0)) h dL_law_1348 ⟨mw_1531, mw_1534, mw_5, ⟨by decide +kernel, by decide +kernel⟩, by decide +kernel, Nat.le_of_ble_eq_true rfl, Nat.le_of_ble_eq_true rfl, (show c + nc + 0 ≤ 600000 by omega), (show s + ns + 0 ≤ 7302250 by omega)⟩ mw_1532 mw_1533 rfl rfl rfl rfl (Nat.le_of_ble_eq_true rfl) cM rfl rfl rfl rfl (fun gm' _ => ?_)
  refine gn_swap ?_
  exact gn_icmp_eq (tgt := 1379) (pc' := 1354) h dL_law_1351 (by decide) rfl (fun _ => (K gx' gm' SX' SM' (c + nc + 0) (s + ns + 0) hR' (by omega) (by omega))) (fun q => absurd rfl q)
set_option maxHeartbeats 4000000 in
theorem law_count {X : XT} {rt : Option FieldType} (h : NC X cL_law RL 4 rt room_1) {b L : Nat} {xs : Nat → Int32} (hX : va_X b L xs (x_s X) (x_s X).heap) (hbl : b < (x_s X).heap.size) (hbA : ¬ (x_A X) b) {qx qm gx gm : Nat → Nat} {SX SM : wd_W} {c s : Nat} {i : Int32} (hR : RW SX SM) (hc : c + 80 ≤ 600000) (hs : s + 1000000 ≤ 7302250) (h1 : vp_in (i + 1) L) (h2 : vp_in (i + 2) L) (h3 : vp_in (i + 3) L) (h4 : vp_in (i + 4) L) (h5 : vp_in (i + 5) L) (K : LK X qx qm b i SX c s) : GN X (wd_ws qx gx (x_cy X) SX 0 layX ++ wd_ws qm gm (x_cy X) SM 0 layM) 1356 [(0, .ref b), (1, .ref (qx 0)), (2, .ref (qm 0)), (3, .int i)] [] c s := by
  obtain ⟨v, SX', SM', nc, ns, cX, cM, hR', hn, hz⟩ := p_count (x_l X) (x_D X) qx gx qm gm (x_cy X) (x_z X) hR (xs (i + 1).toNatClampNeg)
  have hlen : lenS SX' ≤ 120000 := by
    obtain ⟨st, w, _⟩ := hR'
    exact lenS_le w
  refine gn_aload_n (pc' := 1357) h dL_law_1356 rfl rfl ?_
  refine gn_sarg (pc' := 1362) h hX hbl hbA (1 : Int32) rfl rfl dL_law_1357 dL_law_1358 dL_law_1359 dL_law_1360 dL_law_1361 (by decide) h1 rfl ?_
  refine gn_callX (lay := layX) (q := qx) (g := gx) (S := SX) (rest := wd_ws qm gm (x_cy X) SM 0 layM) (n := 1) (b := 0) (C := RX11) (As := [.int (xs (i + 1).toNatClampNeg)]) (st := []) (pc' := 1365) (st' := [.int v]) (cells' := (c + nc)) (slots' := (s + ns)) h dL_law_1362 ⟨mw_1539, mw_1542, mw_2, ⟨by decide +kernel, by decide +kernel⟩, by decide +kernel, Nat.le_of_ble_eq_true rfl, Nat.le_of_ble_eq_true rfl, (show c + 0 ≤ 600000 by omega), (show s + 0 ≤ 7302250 by omega)⟩ mw_1540 mw_1541 rfl rfl rfl rfl (Nat.le_of_ble_eq_true rfl) cX rfl rfl rfl rfl (fun gx' _ => ?_)
  refine gn_swap ?_
  refine gn_aload_n (pc' := 1366) h dL_law_1365 rfl rfl ?_
  refine gn_sarg (pc' := 1371) h hX hbl hbA (1 : Int32) rfl rfl dL_law_1366 dL_law_1367 dL_law_1368 dL_law_1369 dL_law_1370 (by decide) h1 rfl ?_
  refine gn_callX (lay := layM) (q := qm) (g := gm) (S := SM) (rest := wd_ws qx gx' (x_cy X) SX' 0 layX) (n := 1) (b := 0) (C := RX12) (As := [.int (xs (i + 1).toNatClampNeg)]) (st := [.int v]) (pc' := 1374) (st' := [.int v, .int v]) (cells' := (c + nc + 0)) (slots' := (s + ns + 0)) h dL_law_1371 ⟨mw_1544, mw_1547, mw_5, ⟨by decide +kernel, by decide +kernel⟩, by decide +kernel, Nat.le_of_ble_eq_true rfl, Nat.le_of_ble_eq_true rfl, (show c + nc + 0 ≤ 600000 by omega), (show s + ns + 0 ≤ 7302250 by omega)⟩ mw_1545 mw_1546 rfl rfl rfl rfl (Nat.le_of_ble_eq_true rfl) cM rfl rfl rfl rfl (fun gm' _ => ?_)
  refine gn_swap ?_
  exact gn_icmp_eq (tgt := 1379) (pc' := 1377) h dL_law_1374 (by decide) rfl (fun _ => (K gx' gm' SX' SM' (c + nc + 0) (s + ns + 0) hR' (by omega) (by omega))) (fun q => absurd rfl q)
