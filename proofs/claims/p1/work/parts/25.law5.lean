section LC
variable {p : Program} {e : Env} {s : State} {m : MethodId} {below : List Frame} {meth : Method} {c : Code} {l : Launch} {b L : Nat} {xs : Nat → Int32} {D : va_G} {cy : Nat → ClassId} {ν : Nat → Int}
abbrev lwl (b B M : Nat) (i : Int32) : List (Nat × Value) := [(3, .int i), (2, .ref (B + M)), (1, .ref (B + 0)), (0, .ref b)]
theorem lwc_sheet (C0 : lw_At p s m meth c b L xs) (hK : va_K D vwCl (zty cy) s) (hc : zCO l D cy ν s.heap.size 8 (zexec lbd lF 8)) {as : List zV} (hch : lchk false 103 162 as = true) (hv : as.map (zg ν s.heap.size) = [.int (xs 1), .int (xs 2), .int (xs 3)]) {f0 f1 : List zV} (g0 : lx1[0]? = some (.inl (7, f0))) (hL : L = 5) {H : Heap} {locs : List Loc} (hr : lwR s D cy ν lx1 H locs) {Ls : Array Slot} (hl : lv_has Ls 4 (lwl b s.heap.size lM (nI 0)))
    (kk : ∀ (H : Heap) (locs : List Loc) (h : zH), lwR s D cy ν h H locs → h.length ≤ 10000 → zsl h ≤ 3000000 → W p l e room_1 s m #[Value.ref b] below meth c H locs h.length (zsl h) (lw_Z below #[Value.ref b] s) (F0 m 1324 Ls [])) : W p l e room_1 s m #[Value.ref b] below meth c H locs lx1.length (zsl lx1) (lw_Z below #[Value.ref b] s) (F0 m 188 Ls []) := by
  obtain ⟨hx, hb, hr0, hml, hown, hts, hX, hbl, hlocks, hgv⟩ := id C0
  obtain ⟨r, h1, h2, fs, e1, c1, e2, ht, z1, z2⟩ := lchkG_spec hch
  replace e1 : zexec lbd lF 8 103 ((4, ((0 : Nat) : Int)) :: as) lx1 = some (some r, h1) := e1
  obtain ⟨⟨mo1, mo2⟩, -⟩ := hc _ _ _ _ _ _ zq_X8_sheet e2
  have hn : as.length = 3 := by have := congrArg List.length hv; simpa using this
  have hl2 := (⟨lv_at hl 3 rfl, lv_at hl 0 rfl⟩ : Ls[0]? = some (.val (.ref b)) ∧ Ls[3]? = some (.val (.int (nI 0))))
  refine lv_aload_n hx hb dL_law_188 rfl (lv_at hl 2 rfl) ?_
  refine lw_ld C0 hr (i := 0) (k := 1) (n := 1) (lv := []) hl2 rfl (by omega) (by omega) dL_law_189 dL_law_190 dL_law_191 dL_law_192 dL_law_193 ?_
  refine lw_ld C0 hr (i := 0) (k := 2) (n := 2) (lv := []) hl2 rfl (by omega) (by omega) dL_law_194 dL_law_195 dL_law_196 dL_law_197 dL_law_198 ?_
  refine lw_ld C0 hr (i := 0) (k := 3) (n := 3) (lv := []) hl2 rfl (by omega) (by omega) dL_law_199 dL_law_200 dL_law_201 dL_law_202 dL_law_203 ?_
  refine W.eq (g2 := F0 m 204 Ls ((as.map (zg ν s.heap.size)).reverse ++ .ref (s.heap.size + 0) :: [])) (by rw [hv]; rfl) ?_
  refine lw_callV (a := 0) (ci := 7) C0 hK hr hc zq_X7_sheet e1 (zpos_ok (ps := [419, 420, 421]) (by decide +kernel)) g0 (by decide +kernel) hn hl.1 (by decide) (by omega) (by omega) dL_law_204 (fun H locs hr => ?_)
  refine lv_aload_n hx hb dL_law_207 rfl (lv_at hl 1 rfl) ?_
  refine lw_ld C0 hr (i := 0) (k := 1) (n := 1) (lv := []) hl2 rfl (by omega) (by omega) dL_law_208 dL_law_209 dL_law_210 dL_law_211 dL_law_212 ?_
  refine lw_ld C0 hr (i := 0) (k := 2) (n := 2) (lv := []) hl2 rfl (by omega) (by omega) dL_law_213 dL_law_214 dL_law_215 dL_law_216 dL_law_217 ?_
  refine lw_ld C0 hr (i := 0) (k := 3) (n := 3) (lv := []) hl2 rfl (by omega) (by omega) dL_law_218 dL_law_219 dL_law_220 dL_law_221 dL_law_222 ?_
  refine W.eq (g2 := F0 m 223 Ls ((as.map (zg ν s.heap.size)).reverse ++ .ref (s.heap.size + lM) :: [zg ν s.heap.size r])) (by rw [hv]; rfl) ?_
  refine lw_callV (a := lM) (ci := 8) C0 hK hr hc zq_X8_sheet e2 (zpos_ok (ps := [1067, 1068, 1069]) (by decide +kernel)) c1 (by decide +kernel) hn hl.1 (by rw [List.map_cons, zg_cat]; rcases (lv_cat (zg ν s.heap.size r)) with hq | hq <;> rw [zg_cat] at hq <;> simp [hq]) (by omega) (by omega) dL_law_223 (fun H locs hr => ?_)
  have hj : zg ν s.heap.size r = .int (zgI ν r) := zg_I ht
  refine W.eq (g2 := F0 m 226 Ls [.int (zgI ν r), .int (zgI ν r)]) (by rw [← hj]; rfl) ?_
  refine lv_icmp_eq (tgt := 1324) hx hb dL_law_226 (by decide) (fun _ => kk H locs h2 hr z1 z2) (fun hne => absurd rfl hne)
theorem lwc_write (C0 : lw_At p s m meth c b L xs) (hK : va_K D vwCl (zty cy) s) (hc : zCO l D cy ν s.heap.size 8 (zexec lbd lF 8)) {as : List zV} (hch : lchk false 104 163 as = true) (hv : as.map (zg ν s.heap.size) = [.int (xs 1), .int (xs 2), .int (xs 3)]) {f0 f1 : List zV} (g0 : lx1[0]? = some (.inl (7, f0))) (hL : L = 5) {H : Heap} {locs : List Loc} (hr : lwR s D cy ν lx1 H locs) {Ls : Array Slot} (hl : lv_has Ls 4 (lwl b s.heap.size lM (nI 0)))
    (kk : ∀ (H : Heap) (locs : List Loc) (h : zH), lwR s D cy ν h H locs → h.length ≤ 10000 → zsl h ≤ 3000000 → W p l e room_1 s m #[Value.ref b] below meth c H locs h.length (zsl h) (lw_Z below #[Value.ref b] s) (F0 m 1324 Ls [])) : W p l e room_1 s m #[Value.ref b] below meth c H locs lx1.length (zsl lx1) (lw_Z below #[Value.ref b] s) (F0 m 231 Ls []) := by
  obtain ⟨hx, hb, hr0, hml, hown, hts, hX, hbl, hlocks, hgv⟩ := id C0
  obtain ⟨r, h1, h2, fs, e1, c1, e2, ht, z1, z2⟩ := lchkG_spec hch
  replace e1 : zexec lbd lF 8 104 ((4, ((0 : Nat) : Int)) :: as) lx1 = some (some r, h1) := e1
  obtain ⟨⟨mo1, mo2⟩, -⟩ := hc _ _ _ _ _ _ zq_X8_write e2
  have hn : as.length = 3 := by have := congrArg List.length hv; simpa using this
  have hl2 := (⟨lv_at hl 3 rfl, lv_at hl 0 rfl⟩ : Ls[0]? = some (.val (.ref b)) ∧ Ls[3]? = some (.val (.int (nI 0))))
  refine lv_aload_n hx hb dL_law_231 rfl (lv_at hl 2 rfl) ?_
  refine lw_ld C0 hr (i := 0) (k := 1) (n := 1) (lv := []) hl2 rfl (by omega) (by omega) dL_law_232 dL_law_233 dL_law_234 dL_law_235 dL_law_236 ?_
  refine lw_ld C0 hr (i := 0) (k := 2) (n := 2) (lv := []) hl2 rfl (by omega) (by omega) dL_law_237 dL_law_238 dL_law_239 dL_law_240 dL_law_241 ?_
  refine lw_ld C0 hr (i := 0) (k := 3) (n := 3) (lv := []) hl2 rfl (by omega) (by omega) dL_law_242 dL_law_243 dL_law_244 dL_law_245 dL_law_246 ?_
  refine W.eq (g2 := F0 m 247 Ls ((as.map (zg ν s.heap.size)).reverse ++ .ref (s.heap.size + 0) :: [])) (by rw [hv]; rfl) ?_
  refine lw_callV (a := 0) (ci := 7) C0 hK hr hc zq_X7_write e1 (zpos_ok (ps := [439, 440, 441]) (by decide +kernel)) g0 (by decide +kernel) hn hl.1 (by decide) (by omega) (by omega) dL_law_247 (fun H locs hr => ?_)
  refine lv_aload_n hx hb dL_law_250 rfl (lv_at hl 1 rfl) ?_
  refine lw_ld C0 hr (i := 0) (k := 1) (n := 1) (lv := []) hl2 rfl (by omega) (by omega) dL_law_251 dL_law_252 dL_law_253 dL_law_254 dL_law_255 ?_
  refine lw_ld C0 hr (i := 0) (k := 2) (n := 2) (lv := []) hl2 rfl (by omega) (by omega) dL_law_256 dL_law_257 dL_law_258 dL_law_259 dL_law_260 ?_
  refine lw_ld C0 hr (i := 0) (k := 3) (n := 3) (lv := []) hl2 rfl (by omega) (by omega) dL_law_261 dL_law_262 dL_law_263 dL_law_264 dL_law_265 ?_
  refine W.eq (g2 := F0 m 266 Ls ((as.map (zg ν s.heap.size)).reverse ++ .ref (s.heap.size + lM) :: [zg ν s.heap.size r])) (by rw [hv]; rfl) ?_
  refine lw_callV (a := lM) (ci := 8) C0 hK hr hc zq_X8_write e2 (zpos_ok (ps := [1081, 1082, 1083]) (by decide +kernel)) c1 (by decide +kernel) hn hl.1 (by rw [List.map_cons, zg_cat]; rcases (lv_cat (zg ν s.heap.size r)) with hq | hq <;> rw [zg_cat] at hq <;> simp [hq]) (by omega) (by omega) dL_law_266 (fun H locs hr => ?_)
  have hj : zg ν s.heap.size r = .int (zgI ν r) := zg_I ht
  refine W.eq (g2 := F0 m 269 Ls [.int (zgI ν r), .int (zgI ν r)]) (by rw [← hj]; rfl) ?_
  refine lv_icmp_eq (tgt := 1324) hx hb dL_law_269 (by decide) (fun _ => kk H locs h2 hr z1 z2) (fun hne => absurd rfl hne)
theorem lwc_group (C0 : lw_At p s m meth c b L xs) (hK : va_K D vwCl (zty cy) s) (hc : zCO l D cy ν s.heap.size 8 (zexec lbd lF 8)) {as : List zV} (hch : lchk false 105 181 as = true) (hv : as.map (zg ν s.heap.size) = [.int (xs 1)]) {f0 f1 : List zV} (g0 : lx1[0]? = some (.inl (7, f0))) (hL : L = 5) {H : Heap} {locs : List Loc} (hr : lwR s D cy ν lx1 H locs) {Ls : Array Slot} (hl : lv_has Ls 4 (lwl b s.heap.size lM (nI 0)))
    (kk : ∀ (H : Heap) (locs : List Loc) (h : zH), lwR s D cy ν h H locs → h.length ≤ 10000 → zsl h ≤ 3000000 → W p l e room_1 s m #[Value.ref b] below meth c H locs h.length (zsl h) (lw_Z below #[Value.ref b] s) (F0 m 1324 Ls [])) : W p l e room_1 s m #[Value.ref b] below meth c H locs lx1.length (zsl lx1) (lw_Z below #[Value.ref b] s) (F0 m 274 Ls []) := by
  obtain ⟨hx, hb, hr0, hml, hown, hts, hX, hbl, hlocks, hgv⟩ := id C0
  obtain ⟨r, h1, h2, fs, e1, c1, e2, ht, z1, z2⟩ := lchkG_spec hch
  replace e1 : zexec lbd lF 8 105 ((4, ((0 : Nat) : Int)) :: as) lx1 = some (some r, h1) := e1
  obtain ⟨⟨mo1, mo2⟩, -⟩ := hc _ _ _ _ _ _ zq_X8_group e2
  have hn : as.length = 1 := by have := congrArg List.length hv; simpa using this
  have hl2 := (⟨lv_at hl 3 rfl, lv_at hl 0 rfl⟩ : Ls[0]? = some (.val (.ref b)) ∧ Ls[3]? = some (.val (.int (nI 0))))
  refine lv_aload_n hx hb dL_law_274 rfl (lv_at hl 2 rfl) ?_
  refine lw_ld C0 hr (i := 0) (k := 1) (n := 1) (lv := []) hl2 rfl (by omega) (by omega) dL_law_275 dL_law_276 dL_law_277 dL_law_278 dL_law_279 ?_
  refine W.eq (g2 := F0 m 280 Ls ((as.map (zg ν s.heap.size)).reverse ++ .ref (s.heap.size + 0) :: [])) (by rw [hv]; rfl) ?_
  refine lw_callV (a := 0) (ci := 7) C0 hK hr hc zq_X7_group e1 (zpos_ok (ps := [451, 452, 453]) (by decide +kernel)) g0 (by decide +kernel) hn hl.1 (by decide) (by omega) (by omega) dL_law_280 (fun H locs hr => ?_)
  refine lv_aload_n hx hb dL_law_283 rfl (lv_at hl 1 rfl) ?_
  refine lw_ld C0 hr (i := 0) (k := 1) (n := 1) (lv := []) hl2 rfl (by omega) (by omega) dL_law_284 dL_law_285 dL_law_286 dL_law_287 dL_law_288 ?_
  refine W.eq (g2 := F0 m 289 Ls ((as.map (zg ν s.heap.size)).reverse ++ .ref (s.heap.size + lM) :: [zg ν s.heap.size r])) (by rw [hv]; rfl) ?_
  refine lw_callV (a := lM) (ci := 8) C0 hK hr hc zq_X8_group e2 (zpos_ok (ps := [1284, 1285, 1286]) (by decide +kernel)) c1 (by decide +kernel) hn hl.1 (by rw [List.map_cons, zg_cat]; rcases (lv_cat (zg ν s.heap.size r)) with hq | hq <;> rw [zg_cat] at hq <;> simp [hq]) (by omega) (by omega) dL_law_289 (fun H locs hr => ?_)
  have hj : zg ν s.heap.size r = .int (zgI ν r) := zg_I ht
  refine W.eq (g2 := F0 m 292 Ls [.int (zgI ν r), .int (zgI ν r)]) (by rw [← hj]; rfl) ?_
  refine lv_icmp_eq (tgt := 1324) hx hb dL_law_292 (by decide) (fun _ => kk H locs h2 hr z1 z2) (fun hne => absurd rfl hne)
theorem lwc_count (C0 : lw_At p s m meth c b L xs) (hK : va_K D vwCl (zty cy) s) (hc : zCO l D cy ν s.heap.size 8 (zexec lbd lF 8)) {as : List zV} (hch : lchk false 106 182 as = true) (hv : as.map (zg ν s.heap.size) = [.int (xs 1)]) {f0 f1 : List zV} (g0 : lx1[0]? = some (.inl (7, f0))) (hL : L = 5) {H : Heap} {locs : List Loc} (hr : lwR s D cy ν lx1 H locs) {Ls : Array Slot} (hl : lv_has Ls 4 (lwl b s.heap.size lM (nI 0)))
    (kk : ∀ (H : Heap) (locs : List Loc) (h : zH), lwR s D cy ν h H locs → h.length ≤ 10000 → zsl h ≤ 3000000 → W p l e room_1 s m #[Value.ref b] below meth c H locs h.length (zsl h) (lw_Z below #[Value.ref b] s) (F0 m 1324 Ls [])) : W p l e room_1 s m #[Value.ref b] below meth c H locs lx1.length (zsl lx1) (lw_Z below #[Value.ref b] s) (F0 m 297 Ls []) := by
  obtain ⟨hx, hb, hr0, hml, hown, hts, hX, hbl, hlocks, hgv⟩ := id C0
  obtain ⟨r, h1, h2, fs, e1, c1, e2, ht, z1, z2⟩ := lchkG_spec hch
  replace e1 : zexec lbd lF 8 106 ((4, ((0 : Nat) : Int)) :: as) lx1 = some (some r, h1) := e1
  obtain ⟨⟨mo1, mo2⟩, -⟩ := hc _ _ _ _ _ _ zq_X8_count e2
  have hn : as.length = 1 := by have := congrArg List.length hv; simpa using this
  have hl2 := (⟨lv_at hl 3 rfl, lv_at hl 0 rfl⟩ : Ls[0]? = some (.val (.ref b)) ∧ Ls[3]? = some (.val (.int (nI 0))))
  refine lv_aload_n hx hb dL_law_297 rfl (lv_at hl 2 rfl) ?_
  refine lw_ld C0 hr (i := 0) (k := 1) (n := 1) (lv := []) hl2 rfl (by omega) (by omega) dL_law_298 dL_law_299 dL_law_300 dL_law_301 dL_law_302 ?_
  refine W.eq (g2 := F0 m 303 Ls ((as.map (zg ν s.heap.size)).reverse ++ .ref (s.heap.size + 0) :: [])) (by rw [hv]; rfl) ?_
  refine lw_callV (a := 0) (ci := 7) C0 hK hr hc zq_X7_count e1 (zpos_ok (ps := [666, 667, 668]) (by decide +kernel)) g0 (by decide +kernel) hn hl.1 (by decide) (by omega) (by omega) dL_law_303 (fun H locs hr => ?_)
  refine lv_aload_n hx hb dL_law_306 rfl (lv_at hl 1 rfl) ?_
  refine lw_ld C0 hr (i := 0) (k := 1) (n := 1) (lv := []) hl2 rfl (by omega) (by omega) dL_law_307 dL_law_308 dL_law_309 dL_law_310 dL_law_311 ?_
  refine W.eq (g2 := F0 m 312 Ls ((as.map (zg ν s.heap.size)).reverse ++ .ref (s.heap.size + lM) :: [zg ν s.heap.size r])) (by rw [hv]; rfl) ?_
  refine lw_callV (a := lM) (ci := 8) C0 hK hr hc zq_X8_count e2 (zpos_ok (ps := [1301, 1302, 1303]) (by decide +kernel)) c1 (by decide +kernel) hn hl.1 (by rw [List.map_cons, zg_cat]; rcases (lv_cat (zg ν s.heap.size r)) with hq | hq <;> rw [zg_cat] at hq <;> simp [hq]) (by omega) (by omega) dL_law_312 (fun H locs hr => ?_)
  have hj : zg ν s.heap.size r = .int (zgI ν r) := zg_I ht
  refine W.eq (g2 := F0 m 315 Ls [.int (zgI ν r), .int (zgI ν r)]) (by rw [← hj]; rfl) ?_
  refine lv_icmp_eq (tgt := 1324) hx hb dL_law_315 (by decide) (fun _ => kk H locs h2 hr z1 z2) (fun hne => absurd rfl hne)
theorem lwc_turn (C0 : lw_At p s m meth c b L xs) (hK : va_K D vwCl (zty cy) s) (hc : zCO l D cy ν s.heap.size 8 (zexec lbd lF 8)) {as : List zV} (hch : lchk false 107 186 as = true) (hv : as.map (zg ν s.heap.size) = [.int (xs 1), .int (xs 2)]) {f0 f1 : List zV} (g0 : lx1[0]? = some (.inl (7, f0))) (hL : L = 5) {H : Heap} {locs : List Loc} (hr : lwR s D cy ν lx1 H locs) {Ls : Array Slot} (hl : lv_has Ls 4 (lwl b s.heap.size lM (nI 0)))
    (kk : ∀ (H : Heap) (locs : List Loc) (h : zH), lwR s D cy ν h H locs → h.length ≤ 10000 → zsl h ≤ 3000000 → W p l e room_1 s m #[Value.ref b] below meth c H locs h.length (zsl h) (lw_Z below #[Value.ref b] s) (F0 m 1324 Ls [])) : W p l e room_1 s m #[Value.ref b] below meth c H locs lx1.length (zsl lx1) (lw_Z below #[Value.ref b] s) (F0 m 320 Ls []) := by
  obtain ⟨hx, hb, hr0, hml, hown, hts, hX, hbl, hlocks, hgv⟩ := id C0
  obtain ⟨r, h1, h2, fs, e1, c1, e2, ht, z1, z2⟩ := lchkG_spec hch
  replace e1 : zexec lbd lF 8 107 ((4, ((0 : Nat) : Int)) :: as) lx1 = some (some r, h1) := e1
  obtain ⟨⟨mo1, mo2⟩, -⟩ := hc _ _ _ _ _ _ zq_X8_turn e2
  have hn : as.length = 2 := by have := congrArg List.length hv; simpa using this
  have hl2 := (⟨lv_at hl 3 rfl, lv_at hl 0 rfl⟩ : Ls[0]? = some (.val (.ref b)) ∧ Ls[3]? = some (.val (.int (nI 0))))
  refine lv_aload_n hx hb dL_law_320 rfl (lv_at hl 2 rfl) ?_
  refine lw_ld C0 hr (i := 0) (k := 1) (n := 1) (lv := []) hl2 rfl (by omega) (by omega) dL_law_321 dL_law_322 dL_law_323 dL_law_324 dL_law_325 ?_
  refine lw_ld C0 hr (i := 0) (k := 2) (n := 2) (lv := []) hl2 rfl (by omega) (by omega) dL_law_326 dL_law_327 dL_law_328 dL_law_329 dL_law_330 ?_
  refine W.eq (g2 := F0 m 331 Ls ((as.map (zg ν s.heap.size)).reverse ++ .ref (s.heap.size + 0) :: [])) (by rw [hv]; rfl) ?_
  refine lw_callV (a := 0) (ci := 7) C0 hK hr hc zq_X7_turn e1 (zpos_ok (ps := [674, 675, 676]) (by decide +kernel)) g0 (by decide +kernel) hn hl.1 (by decide) (by omega) (by omega) dL_law_331 (fun H locs hr => ?_)
  refine lv_aload_n hx hb dL_law_334 rfl (lv_at hl 1 rfl) ?_
  refine lw_ld C0 hr (i := 0) (k := 1) (n := 1) (lv := []) hl2 rfl (by omega) (by omega) dL_law_335 dL_law_336 dL_law_337 dL_law_338 dL_law_339 ?_
  refine lw_ld C0 hr (i := 0) (k := 2) (n := 2) (lv := []) hl2 rfl (by omega) (by omega) dL_law_340 dL_law_341 dL_law_342 dL_law_343 dL_law_344 ?_
  refine W.eq (g2 := F0 m 345 Ls ((as.map (zg ν s.heap.size)).reverse ++ .ref (s.heap.size + lM) :: [zg ν s.heap.size r])) (by rw [hv]; rfl) ?_
  refine lw_callV (a := lM) (ci := 8) C0 hK hr hc zq_X8_turn e2 (zpos_ok (ps := [1305, 1306, 1307]) (by decide +kernel)) c1 (by decide +kernel) hn hl.1 (by rw [List.map_cons, zg_cat]; rcases (lv_cat (zg ν s.heap.size r)) with hq | hq <;> rw [zg_cat] at hq <;> simp [hq]) (by omega) (by omega) dL_law_345 (fun H locs hr => ?_)
  have hj : zg ν s.heap.size r = .int (zgI ν r) := zg_I ht
  refine W.eq (g2 := F0 m 348 Ls [.int (zgI ν r), .int (zgI ν r)]) (by rw [← hj]; rfl) ?_
  refine lv_icmp_eq (tgt := 1324) hx hb dL_law_348 (by decide) (fun _ => kk H locs h2 hr z1 z2) (fun hne => absurd rfl hne)
theorem lwc_product (C0 : lw_At p s m meth c b L xs) (hK : va_K D vwCl (zty cy) s) (hc : zCO l D cy ν s.heap.size 8 (zexec lbd lF 8)) {as : List zV} (hch : lchk false 108 187 as = true) (hv : as.map (zg ν s.heap.size) = [.int (xs 1), .int (xs 2)]) {f0 f1 : List zV} (g0 : lx1[0]? = some (.inl (7, f0))) (hL : L = 5) {H : Heap} {locs : List Loc} (hr : lwR s D cy ν lx1 H locs) {Ls : Array Slot} (hl : lv_has Ls 4 (lwl b s.heap.size lM (nI 0)))
    (kk : ∀ (H : Heap) (locs : List Loc) (h : zH), lwR s D cy ν h H locs → h.length ≤ 10000 → zsl h ≤ 3000000 → W p l e room_1 s m #[Value.ref b] below meth c H locs h.length (zsl h) (lw_Z below #[Value.ref b] s) (F0 m 1324 Ls [])) : W p l e room_1 s m #[Value.ref b] below meth c H locs lx1.length (zsl lx1) (lw_Z below #[Value.ref b] s) (F0 m 353 Ls []) := by
  obtain ⟨hx, hb, hr0, hml, hown, hts, hX, hbl, hlocks, hgv⟩ := id C0
  obtain ⟨r, h1, h2, fs, e1, c1, e2, ht, z1, z2⟩ := lchkG_spec hch
  replace e1 : zexec lbd lF 8 108 ((4, ((0 : Nat) : Int)) :: as) lx1 = some (some r, h1) := e1
  obtain ⟨⟨mo1, mo2⟩, -⟩ := hc _ _ _ _ _ _ zq_X8_product e2
  have hn : as.length = 2 := by have := congrArg List.length hv; simpa using this
  have hl2 := (⟨lv_at hl 3 rfl, lv_at hl 0 rfl⟩ : Ls[0]? = some (.val (.ref b)) ∧ Ls[3]? = some (.val (.int (nI 0))))
  refine lv_aload_n hx hb dL_law_353 rfl (lv_at hl 2 rfl) ?_
  refine lw_ld C0 hr (i := 0) (k := 1) (n := 1) (lv := []) hl2 rfl (by omega) (by omega) dL_law_354 dL_law_355 dL_law_356 dL_law_357 dL_law_358 ?_
  refine lw_ld C0 hr (i := 0) (k := 2) (n := 2) (lv := []) hl2 rfl (by omega) (by omega) dL_law_359 dL_law_360 dL_law_361 dL_law_362 dL_law_363 ?_
  refine W.eq (g2 := F0 m 364 Ls ((as.map (zg ν s.heap.size)).reverse ++ .ref (s.heap.size + 0) :: [])) (by rw [hv]; rfl) ?_
  refine lw_callV (a := 0) (ci := 7) C0 hK hr hc zq_X7_product e1 (zpos_ok (ps := [682, 683, 684]) (by decide +kernel)) g0 (by decide +kernel) hn hl.1 (by decide) (by omega) (by omega) dL_law_364 (fun H locs hr => ?_)
  refine lv_aload_n hx hb dL_law_367 rfl (lv_at hl 1 rfl) ?_
  refine lw_ld C0 hr (i := 0) (k := 1) (n := 1) (lv := []) hl2 rfl (by omega) (by omega) dL_law_368 dL_law_369 dL_law_370 dL_law_371 dL_law_372 ?_
  refine lw_ld C0 hr (i := 0) (k := 2) (n := 2) (lv := []) hl2 rfl (by omega) (by omega) dL_law_373 dL_law_374 dL_law_375 dL_law_376 dL_law_377 ?_
  refine W.eq (g2 := F0 m 378 Ls ((as.map (zg ν s.heap.size)).reverse ++ .ref (s.heap.size + lM) :: [zg ν s.heap.size r])) (by rw [hv]; rfl) ?_
  refine lw_callV (a := lM) (ci := 8) C0 hK hr hc zq_X8_product e2 (zpos_ok (ps := [1313, 1314, 1315]) (by decide +kernel)) c1 (by decide +kernel) hn hl.1 (by rw [List.map_cons, zg_cat]; rcases (lv_cat (zg ν s.heap.size r)) with hq | hq <;> rw [zg_cat] at hq <;> simp [hq]) (by omega) (by omega) dL_law_378 (fun H locs hr => ?_)
  have hj : zg ν s.heap.size r = .int (zgI ν r) := zg_I ht
  refine W.eq (g2 := F0 m 381 Ls [.int (zgI ν r), .int (zgI ν r)]) (by rw [← hj]; rfl) ?_
  refine lv_icmp_eq (tgt := 1324) hx hb dL_law_381 (by decide) (fun _ => kk H locs h2 hr z1 z2) (fun hne => absurd rfl hne)
theorem lwc_ofTurn (C0 : lw_At p s m meth c b L xs) (hK : va_K D vwCl (zty cy) s) (hc : zCO l D cy ν s.heap.size 8 (zexec lbd lF 8)) {as : List zV} (hch : lchk false 109 191 as = true) (hv : as.map (zg ν s.heap.size) = [.int (xs 1), .int (xs 2)]) {f0 f1 : List zV} (g0 : lx1[0]? = some (.inl (7, f0))) (hL : L = 5) {H : Heap} {locs : List Loc} (hr : lwR s D cy ν lx1 H locs) {Ls : Array Slot} (hl : lv_has Ls 4 (lwl b s.heap.size lM (nI 0)))
    (kk : ∀ (H : Heap) (locs : List Loc) (h : zH), lwR s D cy ν h H locs → h.length ≤ 10000 → zsl h ≤ 3000000 → W p l e room_1 s m #[Value.ref b] below meth c H locs h.length (zsl h) (lw_Z below #[Value.ref b] s) (F0 m 1324 Ls [])) : W p l e room_1 s m #[Value.ref b] below meth c H locs lx1.length (zsl lx1) (lw_Z below #[Value.ref b] s) (F0 m 386 Ls []) := by
  obtain ⟨hx, hb, hr0, hml, hown, hts, hX, hbl, hlocks, hgv⟩ := id C0
  obtain ⟨r, h1, h2, fs, e1, c1, e2, ht, z1, z2⟩ := lchkG_spec hch
  replace e1 : zexec lbd lF 8 109 ((4, ((0 : Nat) : Int)) :: as) lx1 = some (some r, h1) := e1
  obtain ⟨⟨mo1, mo2⟩, -⟩ := hc _ _ _ _ _ _ zq_X8_ofTurn e2
  have hn : as.length = 2 := by have := congrArg List.length hv; simpa using this
  have hl2 := (⟨lv_at hl 3 rfl, lv_at hl 0 rfl⟩ : Ls[0]? = some (.val (.ref b)) ∧ Ls[3]? = some (.val (.int (nI 0))))
  refine lv_aload_n hx hb dL_law_386 rfl (lv_at hl 2 rfl) ?_
  refine lw_ld C0 hr (i := 0) (k := 1) (n := 1) (lv := []) hl2 rfl (by omega) (by omega) dL_law_387 dL_law_388 dL_law_389 dL_law_390 dL_law_391 ?_
  refine lw_ld C0 hr (i := 0) (k := 2) (n := 2) (lv := []) hl2 rfl (by omega) (by omega) dL_law_392 dL_law_393 dL_law_394 dL_law_395 dL_law_396 ?_
  refine W.eq (g2 := F0 m 397 Ls ((as.map (zg ν s.heap.size)).reverse ++ .ref (s.heap.size + 0) :: [])) (by rw [hv]; rfl) ?_
  refine lw_callV (a := 0) (ci := 7) C0 hK hr hc zq_X7_ofTurn e1 (zpos_ok (ps := [687, 688, 689]) (by decide +kernel)) g0 (by decide +kernel) hn hl.1 (by decide) (by omega) (by omega) dL_law_397 (fun H locs hr => ?_)
  refine lv_aload_n hx hb dL_law_400 rfl (lv_at hl 1 rfl) ?_
  refine lw_ld C0 hr (i := 0) (k := 1) (n := 1) (lv := []) hl2 rfl (by omega) (by omega) dL_law_401 dL_law_402 dL_law_403 dL_law_404 dL_law_405 ?_
  refine lw_ld C0 hr (i := 0) (k := 2) (n := 2) (lv := []) hl2 rfl (by omega) (by omega) dL_law_406 dL_law_407 dL_law_408 dL_law_409 dL_law_410 ?_
  refine W.eq (g2 := F0 m 411 Ls ((as.map (zg ν s.heap.size)).reverse ++ .ref (s.heap.size + lM) :: [zg ν s.heap.size r])) (by rw [hv]; rfl) ?_
  refine lw_callV (a := lM) (ci := 8) C0 hK hr hc zq_X8_ofTurn e2 (zpos_ok (ps := [1317, 1318, 1319]) (by decide +kernel)) c1 (by decide +kernel) hn hl.1 (by rw [List.map_cons, zg_cat]; rcases (lv_cat (zg ν s.heap.size r)) with hq | hq <;> rw [zg_cat] at hq <;> simp [hq]) (by omega) (by omega) dL_law_411 (fun H locs hr => ?_)
  have hj : zg ν s.heap.size r = .int (zgI ν r) := zg_I ht
  refine W.eq (g2 := F0 m 414 Ls [.int (zgI ν r), .int (zgI ν r)]) (by rw [← hj]; rfl) ?_
  refine lv_icmp_eq (tgt := 1324) hx hb dL_law_414 (by decide) (fun _ => kk H locs h2 hr z1 z2) (fun hne => absurd rfl hne)
theorem lwc_heap (C0 : lw_At p s m meth c b L xs) (hK : va_K D vwCl (zty cy) s) (hc : zCO l D cy ν s.heap.size 8 (zexec lbd lF 8)) {as : List zV} (hch : lchk false 110 199 as = true) (hv : as.map (zg ν s.heap.size) = [.int (xs 1), .int (xs 2)]) {f0 f1 : List zV} (g0 : lx1[0]? = some (.inl (7, f0))) (hL : L = 5) {H : Heap} {locs : List Loc} (hr : lwR s D cy ν lx1 H locs) {Ls : Array Slot} (hl : lv_has Ls 4 (lwl b s.heap.size lM (nI 0)))
    (kk : ∀ (H : Heap) (locs : List Loc) (h : zH), lwR s D cy ν h H locs → h.length ≤ 10000 → zsl h ≤ 3000000 → W p l e room_1 s m #[Value.ref b] below meth c H locs h.length (zsl h) (lw_Z below #[Value.ref b] s) (F0 m 1324 Ls [])) : W p l e room_1 s m #[Value.ref b] below meth c H locs lx1.length (zsl lx1) (lw_Z below #[Value.ref b] s) (F0 m 419 Ls []) := by
  obtain ⟨hx, hb, hr0, hml, hown, hts, hX, hbl, hlocks, hgv⟩ := id C0
  obtain ⟨r, h1, h2, fs, e1, c1, e2, ht, z1, z2⟩ := lchkG_spec hch
  replace e1 : zexec lbd lF 8 110 ((4, ((0 : Nat) : Int)) :: as) lx1 = some (some r, h1) := e1
  obtain ⟨⟨mo1, mo2⟩, -⟩ := hc _ _ _ _ _ _ zq_X8_heap e2
  have hn : as.length = 2 := by have := congrArg List.length hv; simpa using this
  have hl2 := (⟨lv_at hl 3 rfl, lv_at hl 0 rfl⟩ : Ls[0]? = some (.val (.ref b)) ∧ Ls[3]? = some (.val (.int (nI 0))))
  refine lv_aload_n hx hb dL_law_419 rfl (lv_at hl 2 rfl) ?_
  refine lw_ld C0 hr (i := 0) (k := 1) (n := 1) (lv := []) hl2 rfl (by omega) (by omega) dL_law_420 dL_law_421 dL_law_422 dL_law_423 dL_law_424 ?_
  refine lw_ld C0 hr (i := 0) (k := 2) (n := 2) (lv := []) hl2 rfl (by omega) (by omega) dL_law_425 dL_law_426 dL_law_427 dL_law_428 dL_law_429 ?_
  refine W.eq (g2 := F0 m 430 Ls ((as.map (zg ν s.heap.size)).reverse ++ .ref (s.heap.size + 0) :: [])) (by rw [hv]; rfl) ?_
  refine lw_callV (a := 0) (ci := 7) C0 hK hr hc zq_X7_heap e1 (zpos_ok (ps := [695, 696, 697]) (by decide +kernel)) g0 (by decide +kernel) hn hl.1 (by decide) (by omega) (by omega) dL_law_430 (fun H locs hr => ?_)
  refine lv_aload_n hx hb dL_law_433 rfl (lv_at hl 1 rfl) ?_
  refine lw_ld C0 hr (i := 0) (k := 1) (n := 1) (lv := []) hl2 rfl (by omega) (by omega) dL_law_434 dL_law_435 dL_law_436 dL_law_437 dL_law_438 ?_
  refine lw_ld C0 hr (i := 0) (k := 2) (n := 2) (lv := []) hl2 rfl (by omega) (by omega) dL_law_439 dL_law_440 dL_law_441 dL_law_442 dL_law_443 ?_
  refine W.eq (g2 := F0 m 444 Ls ((as.map (zg ν s.heap.size)).reverse ++ .ref (s.heap.size + lM) :: [zg ν s.heap.size r])) (by rw [hv]; rfl) ?_
  refine lw_callV (a := lM) (ci := 8) C0 hK hr hc zq_X8_heap e2 (zpos_ok (ps := [1337, 1338, 1339]) (by decide +kernel)) c1 (by decide +kernel) hn hl.1 (by rw [List.map_cons, zg_cat]; rcases (lv_cat (zg ν s.heap.size r)) with hq | hq <;> rw [zg_cat] at hq <;> simp [hq]) (by omega) (by omega) dL_law_444 (fun H locs hr => ?_)
  have hj : zg ν s.heap.size r = .int (zgI ν r) := zg_I ht
  refine W.eq (g2 := F0 m 447 Ls [.int (zgI ν r), .int (zgI ν r)]) (by rw [← hj]; rfl) ?_
  refine lv_icmp_eq (tgt := 1324) hx hb dL_law_447 (by decide) (fun _ => kk H locs h2 hr z1 z2) (fun hne => absurd rfl hne)
theorem lwc_has (C0 : lw_At p s m meth c b L xs) (hK : va_K D vwCl (zty cy) s) (hc : zCO l D cy ν s.heap.size 8 (zexec lbd lF 8)) {as : List zV} (hch : lchk false 111 200 as = true) (hv : as.map (zg ν s.heap.size) = [.int (xs 1), .int (xs 2)]) {f0 f1 : List zV} (g0 : lx1[0]? = some (.inl (7, f0))) (hL : L = 5) {H : Heap} {locs : List Loc} (hr : lwR s D cy ν lx1 H locs) {Ls : Array Slot} (hl : lv_has Ls 4 (lwl b s.heap.size lM (nI 0)))
    (kk : ∀ (H : Heap) (locs : List Loc) (h : zH), lwR s D cy ν h H locs → h.length ≤ 10000 → zsl h ≤ 3000000 → W p l e room_1 s m #[Value.ref b] below meth c H locs h.length (zsl h) (lw_Z below #[Value.ref b] s) (F0 m 1324 Ls [])) : W p l e room_1 s m #[Value.ref b] below meth c H locs lx1.length (zsl lx1) (lw_Z below #[Value.ref b] s) (F0 m 452 Ls []) := by
  obtain ⟨hx, hb, hr0, hml, hown, hts, hX, hbl, hlocks, hgv⟩ := id C0
  obtain ⟨r, h1, h2, fs, e1, c1, e2, ht, z1, z2⟩ := lchkG_spec hch
  replace e1 : zexec lbd lF 8 111 ((4, ((0 : Nat) : Int)) :: as) lx1 = some (some r, h1) := e1
  obtain ⟨⟨mo1, mo2⟩, -⟩ := hc _ _ _ _ _ _ zq_X8_has e2
  have hn : as.length = 2 := by have := congrArg List.length hv; simpa using this
  have hl2 := (⟨lv_at hl 3 rfl, lv_at hl 0 rfl⟩ : Ls[0]? = some (.val (.ref b)) ∧ Ls[3]? = some (.val (.int (nI 0))))
  refine lv_aload_n hx hb dL_law_452 rfl (lv_at hl 2 rfl) ?_
  refine lw_ld C0 hr (i := 0) (k := 1) (n := 1) (lv := []) hl2 rfl (by omega) (by omega) dL_law_453 dL_law_454 dL_law_455 dL_law_456 dL_law_457 ?_
  refine lw_ld C0 hr (i := 0) (k := 2) (n := 2) (lv := []) hl2 rfl (by omega) (by omega) dL_law_458 dL_law_459 dL_law_460 dL_law_461 dL_law_462 ?_
  refine W.eq (g2 := F0 m 463 Ls ((as.map (zg ν s.heap.size)).reverse ++ .ref (s.heap.size + 0) :: [])) (by rw [hv]; rfl) ?_
  refine lw_callV (a := 0) (ci := 7) C0 hK hr hc zq_X7_has e1 (zpos_ok (ps := [756, 757, 758]) (by decide +kernel)) g0 (by decide +kernel) hn hl.1 (by decide) (by omega) (by omega) dL_law_463 (fun H locs hr => ?_)
  refine lv_aload_n hx hb dL_law_466 rfl (lv_at hl 1 rfl) ?_
  refine lw_ld C0 hr (i := 0) (k := 1) (n := 1) (lv := []) hl2 rfl (by omega) (by omega) dL_law_467 dL_law_468 dL_law_469 dL_law_470 dL_law_471 ?_
  refine lw_ld C0 hr (i := 0) (k := 2) (n := 2) (lv := []) hl2 rfl (by omega) (by omega) dL_law_472 dL_law_473 dL_law_474 dL_law_475 dL_law_476 ?_
  refine W.eq (g2 := F0 m 477 Ls ((as.map (zg ν s.heap.size)).reverse ++ .ref (s.heap.size + lM) :: [zg ν s.heap.size r])) (by rw [hv]; rfl) ?_
  refine lw_callV (a := lM) (ci := 8) C0 hK hr hc zq_X8_has e2 (zpos_ok (ps := [1370, 1371, 1372]) (by decide +kernel)) c1 (by decide +kernel) hn hl.1 (by rw [List.map_cons, zg_cat]; rcases (lv_cat (zg ν s.heap.size r)) with hq | hq <;> rw [zg_cat] at hq <;> simp [hq]) (by omega) (by omega) dL_law_477 (fun H locs hr => ?_)
  have hj : zg ν s.heap.size r = .int (zgI ν r) := zg_I ht
  refine W.eq (g2 := F0 m 480 Ls [.int (zgI ν r), .int (zgI ν r)]) (by rw [← hj]; rfl) ?_
  refine lv_icmp_eq (tgt := 1324) hx hb dL_law_480 (by decide) (fun _ => kk H locs h2 hr z1 z2) (fun hne => absurd rfl hne)
theorem lwc_join (C0 : lw_At p s m meth c b L xs) (hK : va_K D vwCl (zty cy) s) (hc : zCO l D cy ν s.heap.size 8 (zexec lbd lF 8)) {as : List zV} (hch : lchk false 112 201 as = true) (hv : as.map (zg ν s.heap.size) = [.int (xs 1), .int (xs 2), .int (xs 3)]) {f0 f1 : List zV} (g0 : lx1[0]? = some (.inl (7, f0))) (hL : L = 5) {H : Heap} {locs : List Loc} (hr : lwR s D cy ν lx1 H locs) {Ls : Array Slot} (hl : lv_has Ls 4 (lwl b s.heap.size lM (nI 0)))
    (kk : ∀ (H : Heap) (locs : List Loc) (h : zH), lwR s D cy ν h H locs → h.length ≤ 10000 → zsl h ≤ 3000000 → W p l e room_1 s m #[Value.ref b] below meth c H locs h.length (zsl h) (lw_Z below #[Value.ref b] s) (F0 m 1324 Ls [])) : W p l e room_1 s m #[Value.ref b] below meth c H locs lx1.length (zsl lx1) (lw_Z below #[Value.ref b] s) (F0 m 485 Ls []) := by
  obtain ⟨hx, hb, hr0, hml, hown, hts, hX, hbl, hlocks, hgv⟩ := id C0
  obtain ⟨r, h1, h2, fs, e1, c1, e2, ht, z1, z2⟩ := lchkG_spec hch
  replace e1 : zexec lbd lF 8 112 ((4, ((0 : Nat) : Int)) :: as) lx1 = some (some r, h1) := e1
  obtain ⟨⟨mo1, mo2⟩, -⟩ := hc _ _ _ _ _ _ zq_X8_join e2
  have hn : as.length = 3 := by have := congrArg List.length hv; simpa using this
  have hl2 := (⟨lv_at hl 3 rfl, lv_at hl 0 rfl⟩ : Ls[0]? = some (.val (.ref b)) ∧ Ls[3]? = some (.val (.int (nI 0))))
  refine lv_aload_n hx hb dL_law_485 rfl (lv_at hl 2 rfl) ?_
  refine lw_ld C0 hr (i := 0) (k := 1) (n := 1) (lv := []) hl2 rfl (by omega) (by omega) dL_law_486 dL_law_487 dL_law_488 dL_law_489 dL_law_490 ?_
  refine lw_ld C0 hr (i := 0) (k := 2) (n := 2) (lv := []) hl2 rfl (by omega) (by omega) dL_law_491 dL_law_492 dL_law_493 dL_law_494 dL_law_495 ?_
  refine lw_ld C0 hr (i := 0) (k := 3) (n := 3) (lv := []) hl2 rfl (by omega) (by omega) dL_law_496 dL_law_497 dL_law_498 dL_law_499 dL_law_500 ?_
  refine W.eq (g2 := F0 m 501 Ls ((as.map (zg ν s.heap.size)).reverse ++ .ref (s.heap.size + 0) :: [])) (by rw [hv]; rfl) ?_
  refine lw_callV (a := 0) (ci := 7) C0 hK hr hc zq_X7_join e1 (zpos_ok (ps := [761, 762, 763]) (by decide +kernel)) g0 (by decide +kernel) hn hl.1 (by decide) (by omega) (by omega) dL_law_501 (fun H locs hr => ?_)
  refine lv_aload_n hx hb dL_law_504 rfl (lv_at hl 1 rfl) ?_
  refine lw_ld C0 hr (i := 0) (k := 1) (n := 1) (lv := []) hl2 rfl (by omega) (by omega) dL_law_505 dL_law_506 dL_law_507 dL_law_508 dL_law_509 ?_
  refine lw_ld C0 hr (i := 0) (k := 2) (n := 2) (lv := []) hl2 rfl (by omega) (by omega) dL_law_510 dL_law_511 dL_law_512 dL_law_513 dL_law_514 ?_
  refine lw_ld C0 hr (i := 0) (k := 3) (n := 3) (lv := []) hl2 rfl (by omega) (by omega) dL_law_515 dL_law_516 dL_law_517 dL_law_518 dL_law_519 ?_
  refine W.eq (g2 := F0 m 520 Ls ((as.map (zg ν s.heap.size)).reverse ++ .ref (s.heap.size + lM) :: [zg ν s.heap.size r])) (by rw [hv]; rfl) ?_
  refine lw_callV (a := lM) (ci := 8) C0 hK hr hc zq_X8_join e2 (zpos_ok (ps := [1374, 1375, 1376]) (by decide +kernel)) c1 (by decide +kernel) hn hl.1 (by rw [List.map_cons, zg_cat]; rcases (lv_cat (zg ν s.heap.size r)) with hq | hq <;> rw [zg_cat] at hq <;> simp [hq]) (by omega) (by omega) dL_law_520 (fun H locs hr => ?_)
  have hj : zg ν s.heap.size r = .int (zgI ν r) := zg_I ht
  refine W.eq (g2 := F0 m 523 Ls [.int (zgI ν r), .int (zgI ν r)]) (by rw [← hj]; rfl) ?_
  refine lv_icmp_eq (tgt := 1324) hx hb dL_law_523 (by decide) (fun _ => kk H locs h2 hr z1 z2) (fun hne => absurd rfl hne)
theorem lwc_ofClass (C0 : lw_At p s m meth c b L xs) (hK : va_K D vwCl (zty cy) s) (hc : zCO l D cy ν s.heap.size 8 (zexec lbd lF 8)) {as : List zV} (hch : lchk false 113 202 as = true) (hv : as.map (zg ν s.heap.size) = [.int (xs 1), .int (xs 2)]) {f0 f1 : List zV} (g0 : lx1[0]? = some (.inl (7, f0))) (hL : L = 5) {H : Heap} {locs : List Loc} (hr : lwR s D cy ν lx1 H locs) {Ls : Array Slot} (hl : lv_has Ls 4 (lwl b s.heap.size lM (nI 0)))
    (kk : ∀ (H : Heap) (locs : List Loc) (h : zH), lwR s D cy ν h H locs → h.length ≤ 10000 → zsl h ≤ 3000000 → W p l e room_1 s m #[Value.ref b] below meth c H locs h.length (zsl h) (lw_Z below #[Value.ref b] s) (F0 m 1324 Ls [])) : W p l e room_1 s m #[Value.ref b] below meth c H locs lx1.length (zsl lx1) (lw_Z below #[Value.ref b] s) (F0 m 528 Ls []) := by
  obtain ⟨hx, hb, hr0, hml, hown, hts, hX, hbl, hlocks, hgv⟩ := id C0
  obtain ⟨r, h1, h2, fs, e1, c1, e2, ht, z1, z2⟩ := lchkG_spec hch
  replace e1 : zexec lbd lF 8 113 ((4, ((0 : Nat) : Int)) :: as) lx1 = some (some r, h1) := e1
  obtain ⟨⟨mo1, mo2⟩, -⟩ := hc _ _ _ _ _ _ zq_X8_ofClass e2
  have hn : as.length = 2 := by have := congrArg List.length hv; simpa using this
  have hl2 := (⟨lv_at hl 3 rfl, lv_at hl 0 rfl⟩ : Ls[0]? = some (.val (.ref b)) ∧ Ls[3]? = some (.val (.int (nI 0))))
  refine lv_aload_n hx hb dL_law_528 rfl (lv_at hl 2 rfl) ?_
  refine lw_ld C0 hr (i := 0) (k := 1) (n := 1) (lv := []) hl2 rfl (by omega) (by omega) dL_law_529 dL_law_530 dL_law_531 dL_law_532 dL_law_533 ?_
  refine lw_ld C0 hr (i := 0) (k := 2) (n := 2) (lv := []) hl2 rfl (by omega) (by omega) dL_law_534 dL_law_535 dL_law_536 dL_law_537 dL_law_538 ?_
  refine W.eq (g2 := F0 m 539 Ls ((as.map (zg ν s.heap.size)).reverse ++ .ref (s.heap.size + 0) :: [])) (by rw [hv]; rfl) ?_
  refine lw_callV (a := 0) (ci := 7) C0 hK hr hc zq_X7_ofClass e1 (zpos_ok (ps := [770, 771, 772]) (by decide +kernel)) g0 (by decide +kernel) hn hl.1 (by decide) (by omega) (by omega) dL_law_539 (fun H locs hr => ?_)
  refine lv_aload_n hx hb dL_law_542 rfl (lv_at hl 1 rfl) ?_
  refine lw_ld C0 hr (i := 0) (k := 1) (n := 1) (lv := []) hl2 rfl (by omega) (by omega) dL_law_543 dL_law_544 dL_law_545 dL_law_546 dL_law_547 ?_
  refine lw_ld C0 hr (i := 0) (k := 2) (n := 2) (lv := []) hl2 rfl (by omega) (by omega) dL_law_548 dL_law_549 dL_law_550 dL_law_551 dL_law_552 ?_
  refine W.eq (g2 := F0 m 553 Ls ((as.map (zg ν s.heap.size)).reverse ++ .ref (s.heap.size + lM) :: [zg ν s.heap.size r])) (by rw [hv]; rfl) ?_
  refine lw_callV (a := lM) (ci := 8) C0 hK hr hc zq_X8_ofClass e2 (zpos_ok (ps := [1378, 1379, 1380]) (by decide +kernel)) c1 (by decide +kernel) hn hl.1 (by rw [List.map_cons, zg_cat]; rcases (lv_cat (zg ν s.heap.size r)) with hq | hq <;> rw [zg_cat] at hq <;> simp [hq]) (by omega) (by omega) dL_law_553 (fun H locs hr => ?_)
  have hj : zg ν s.heap.size r = .int (zgI ν r) := zg_I ht
  refine W.eq (g2 := F0 m 556 Ls [.int (zgI ν r), .int (zgI ν r)]) (by rw [← hj]; rfl) ?_
  refine lv_icmp_eq (tgt := 1324) hx hb dL_law_556 (by decide) (fun _ => kk H locs h2 hr z1 z2) (fun hne => absurd rfl hne)
theorem lwc_within (C0 : lw_At p s m meth c b L xs) (hK : va_K D vwCl (zty cy) s) (hc : zCO l D cy ν s.heap.size 8 (zexec lbd lF 8)) {as : List zV} (hch : lchk false 114 203 as = true) (hv : as.map (zg ν s.heap.size) = [.int (xs 1), .int (xs 2), .int (xs 3)]) {f0 f1 : List zV} (g0 : lx1[0]? = some (.inl (7, f0))) (hL : L = 5) {H : Heap} {locs : List Loc} (hr : lwR s D cy ν lx1 H locs) {Ls : Array Slot} (hl : lv_has Ls 4 (lwl b s.heap.size lM (nI 0)))
    (kk : ∀ (H : Heap) (locs : List Loc) (h : zH), lwR s D cy ν h H locs → h.length ≤ 10000 → zsl h ≤ 3000000 → W p l e room_1 s m #[Value.ref b] below meth c H locs h.length (zsl h) (lw_Z below #[Value.ref b] s) (F0 m 1324 Ls [])) : W p l e room_1 s m #[Value.ref b] below meth c H locs lx1.length (zsl lx1) (lw_Z below #[Value.ref b] s) (F0 m 561 Ls []) := by
  obtain ⟨hx, hb, hr0, hml, hown, hts, hX, hbl, hlocks, hgv⟩ := id C0
  obtain ⟨r, h1, h2, fs, e1, c1, e2, ht, z1, z2⟩ := lchkG_spec hch
  replace e1 : zexec lbd lF 8 114 ((4, ((0 : Nat) : Int)) :: as) lx1 = some (some r, h1) := e1
  obtain ⟨⟨mo1, mo2⟩, -⟩ := hc _ _ _ _ _ _ zq_X8_within e2
  have hn : as.length = 3 := by have := congrArg List.length hv; simpa using this
  have hl2 := (⟨lv_at hl 3 rfl, lv_at hl 0 rfl⟩ : Ls[0]? = some (.val (.ref b)) ∧ Ls[3]? = some (.val (.int (nI 0))))
  refine lv_aload_n hx hb dL_law_561 rfl (lv_at hl 2 rfl) ?_
  refine lw_ld C0 hr (i := 0) (k := 1) (n := 1) (lv := []) hl2 rfl (by omega) (by omega) dL_law_562 dL_law_563 dL_law_564 dL_law_565 dL_law_566 ?_
  refine lw_ld C0 hr (i := 0) (k := 2) (n := 2) (lv := []) hl2 rfl (by omega) (by omega) dL_law_567 dL_law_568 dL_law_569 dL_law_570 dL_law_571 ?_
  refine lw_ld C0 hr (i := 0) (k := 3) (n := 3) (lv := []) hl2 rfl (by omega) (by omega) dL_law_572 dL_law_573 dL_law_574 dL_law_575 dL_law_576 ?_
  refine W.eq (g2 := F0 m 577 Ls ((as.map (zg ν s.heap.size)).reverse ++ .ref (s.heap.size + 0) :: [])) (by rw [hv]; rfl) ?_
  refine lw_callV (a := 0) (ci := 7) C0 hK hr hc zq_X7_within e1 (zpos_ok (ps := [779, 780, 781]) (by decide +kernel)) g0 (by decide +kernel) hn hl.1 (by decide) (by omega) (by omega) dL_law_577 (fun H locs hr => ?_)
  refine lv_aload_n hx hb dL_law_580 rfl (lv_at hl 1 rfl) ?_
  refine lw_ld C0 hr (i := 0) (k := 1) (n := 1) (lv := []) hl2 rfl (by omega) (by omega) dL_law_581 dL_law_582 dL_law_583 dL_law_584 dL_law_585 ?_
  refine lw_ld C0 hr (i := 0) (k := 2) (n := 2) (lv := []) hl2 rfl (by omega) (by omega) dL_law_586 dL_law_587 dL_law_588 dL_law_589 dL_law_590 ?_
  refine lw_ld C0 hr (i := 0) (k := 3) (n := 3) (lv := []) hl2 rfl (by omega) (by omega) dL_law_591 dL_law_592 dL_law_593 dL_law_594 dL_law_595 ?_
  refine W.eq (g2 := F0 m 596 Ls ((as.map (zg ν s.heap.size)).reverse ++ .ref (s.heap.size + lM) :: [zg ν s.heap.size r])) (by rw [hv]; rfl) ?_
  refine lw_callV (a := lM) (ci := 8) C0 hK hr hc zq_X8_within e2 (zpos_ok (ps := [1386, 1387, 1388]) (by decide +kernel)) c1 (by decide +kernel) hn hl.1 (by rw [List.map_cons, zg_cat]; rcases (lv_cat (zg ν s.heap.size r)) with hq | hq <;> rw [zg_cat] at hq <;> simp [hq]) (by omega) (by omega) dL_law_596 (fun H locs hr => ?_)
  have hj : zg ν s.heap.size r = .int (zgI ν r) := zg_I ht
  refine W.eq (g2 := F0 m 599 Ls [.int (zgI ν r), .int (zgI ν r)]) (by rw [← hj]; rfl) ?_
  refine lv_icmp_eq (tgt := 1324) hx hb dL_law_599 (by decide) (fun _ => kk H locs h2 hr z1 z2) (fun hne => absurd rfl hne)
theorem lwc_table (C0 : lw_At p s m meth c b L xs) (hK : va_K D vwCl (zty cy) s) (hc : zCO l D cy ν s.heap.size 8 (zexec lbd lF 8)) {as : List zV} (hch : lchk false 115 204 as = true) (hv : as.map (zg ν s.heap.size) = [.int (xs 1), .int (xs 2)]) {f0 f1 : List zV} (g0 : lx1[0]? = some (.inl (7, f0))) (hL : L = 5) {H : Heap} {locs : List Loc} (hr : lwR s D cy ν lx1 H locs) {Ls : Array Slot} (hl : lv_has Ls 4 (lwl b s.heap.size lM (nI 0)))
    (kk : ∀ (H : Heap) (locs : List Loc) (h : zH), lwR s D cy ν h H locs → h.length ≤ 10000 → zsl h ≤ 3000000 → W p l e room_1 s m #[Value.ref b] below meth c H locs h.length (zsl h) (lw_Z below #[Value.ref b] s) (F0 m 1324 Ls [])) : W p l e room_1 s m #[Value.ref b] below meth c H locs lx1.length (zsl lx1) (lw_Z below #[Value.ref b] s) (F0 m 604 Ls []) := by
  obtain ⟨hx, hb, hr0, hml, hown, hts, hX, hbl, hlocks, hgv⟩ := id C0
  obtain ⟨r, h1, h2, fs, e1, c1, e2, ht, z1, z2⟩ := lchkG_spec hch
  replace e1 : zexec lbd lF 8 115 ((4, ((0 : Nat) : Int)) :: as) lx1 = some (some r, h1) := e1
  obtain ⟨⟨mo1, mo2⟩, -⟩ := hc _ _ _ _ _ _ zq_X8_table e2
  have hn : as.length = 2 := by have := congrArg List.length hv; simpa using this
  have hl2 := (⟨lv_at hl 3 rfl, lv_at hl 0 rfl⟩ : Ls[0]? = some (.val (.ref b)) ∧ Ls[3]? = some (.val (.int (nI 0))))
  refine lv_aload_n hx hb dL_law_604 rfl (lv_at hl 2 rfl) ?_
  refine lw_ld C0 hr (i := 0) (k := 1) (n := 1) (lv := []) hl2 rfl (by omega) (by omega) dL_law_605 dL_law_606 dL_law_607 dL_law_608 dL_law_609 ?_
  refine lw_ld C0 hr (i := 0) (k := 2) (n := 2) (lv := []) hl2 rfl (by omega) (by omega) dL_law_610 dL_law_611 dL_law_612 dL_law_613 dL_law_614 ?_
  refine W.eq (g2 := F0 m 615 Ls ((as.map (zg ν s.heap.size)).reverse ++ .ref (s.heap.size + 0) :: [])) (by rw [hv]; rfl) ?_
  refine lw_callV (a := 0) (ci := 7) C0 hK hr hc zq_X7_table e1 (zpos_ok (ps := [788, 789, 790]) (by decide +kernel)) g0 (by decide +kernel) hn hl.1 (by decide) (by omega) (by omega) dL_law_615 (fun H locs hr => ?_)
  refine lv_aload_n hx hb dL_law_618 rfl (lv_at hl 1 rfl) ?_
  refine lw_ld C0 hr (i := 0) (k := 1) (n := 1) (lv := []) hl2 rfl (by omega) (by omega) dL_law_619 dL_law_620 dL_law_621 dL_law_622 dL_law_623 ?_
  refine lw_ld C0 hr (i := 0) (k := 2) (n := 2) (lv := []) hl2 rfl (by omega) (by omega) dL_law_624 dL_law_625 dL_law_626 dL_law_627 dL_law_628 ?_
  refine W.eq (g2 := F0 m 629 Ls ((as.map (zg ν s.heap.size)).reverse ++ .ref (s.heap.size + lM) :: [zg ν s.heap.size r])) (by rw [hv]; rfl) ?_
  refine lw_callV (a := lM) (ci := 8) C0 hK hr hc zq_X8_table e2 (zpos_ok (ps := [1390, 1391, 1392]) (by decide +kernel)) c1 (by decide +kernel) hn hl.1 (by rw [List.map_cons, zg_cat]; rcases (lv_cat (zg ν s.heap.size r)) with hq | hq <;> rw [zg_cat] at hq <;> simp [hq]) (by omega) (by omega) dL_law_629 (fun H locs hr => ?_)
  have hj : zg ν s.heap.size r = .int (zgI ν r) := zg_I ht
  refine W.eq (g2 := F0 m 632 Ls [.int (zgI ν r), .int (zgI ν r)]) (by rw [← hj]; rfl) ?_
  refine lv_icmp_eq (tgt := 1324) hx hb dL_law_632 (by decide) (fun _ => kk H locs h2 hr z1 z2) (fun hne => absurd rfl hne)
theorem lwc_sylow (C0 : lw_At p s m meth c b L xs) (hK : va_K D vwCl (zty cy) s) (hc : zCO l D cy ν s.heap.size 8 (zexec lbd lF 8)) {as : List zV} (hch : lchk false 116 205 as = true) (hv : as.map (zg ν s.heap.size) = [.int (xs 1)]) {f0 f1 : List zV} (g0 : lx1[0]? = some (.inl (7, f0))) (hL : L = 5) {H : Heap} {locs : List Loc} (hr : lwR s D cy ν lx1 H locs) {Ls : Array Slot} (hl : lv_has Ls 4 (lwl b s.heap.size lM (nI 0)))
    (kk : ∀ (H : Heap) (locs : List Loc) (h : zH), lwR s D cy ν h H locs → h.length ≤ 10000 → zsl h ≤ 3000000 → W p l e room_1 s m #[Value.ref b] below meth c H locs h.length (zsl h) (lw_Z below #[Value.ref b] s) (F0 m 1324 Ls [])) : W p l e room_1 s m #[Value.ref b] below meth c H locs lx1.length (zsl lx1) (lw_Z below #[Value.ref b] s) (F0 m 637 Ls []) := by
  obtain ⟨hx, hb, hr0, hml, hown, hts, hX, hbl, hlocks, hgv⟩ := id C0
  obtain ⟨r, h1, h2, fs, e1, c1, e2, ht, z1, z2⟩ := lchkG_spec hch
  replace e1 : zexec lbd lF 8 116 ((4, ((0 : Nat) : Int)) :: as) lx1 = some (some r, h1) := e1
  obtain ⟨⟨mo1, mo2⟩, -⟩ := hc _ _ _ _ _ _ zq_X8_sylow e2
  have hn : as.length = 1 := by have := congrArg List.length hv; simpa using this
  have hl2 := (⟨lv_at hl 3 rfl, lv_at hl 0 rfl⟩ : Ls[0]? = some (.val (.ref b)) ∧ Ls[3]? = some (.val (.int (nI 0))))
  refine lv_aload_n hx hb dL_law_637 rfl (lv_at hl 2 rfl) ?_
  refine lw_ld C0 hr (i := 0) (k := 1) (n := 1) (lv := []) hl2 rfl (by omega) (by omega) dL_law_638 dL_law_639 dL_law_640 dL_law_641 dL_law_642 ?_
  refine W.eq (g2 := F0 m 643 Ls ((as.map (zg ν s.heap.size)).reverse ++ .ref (s.heap.size + 0) :: [])) (by rw [hv]; rfl) ?_
  refine lw_callV (a := 0) (ci := 7) C0 hK hr hc zq_X7_sylow e1 (zpos_ok (ps := [796, 797, 798]) (by decide +kernel)) g0 (by decide +kernel) hn hl.1 (by decide) (by omega) (by omega) dL_law_643 (fun H locs hr => ?_)
  refine lv_aload_n hx hb dL_law_646 rfl (lv_at hl 1 rfl) ?_
  refine lw_ld C0 hr (i := 0) (k := 1) (n := 1) (lv := []) hl2 rfl (by omega) (by omega) dL_law_647 dL_law_648 dL_law_649 dL_law_650 dL_law_651 ?_
  refine W.eq (g2 := F0 m 652 Ls ((as.map (zg ν s.heap.size)).reverse ++ .ref (s.heap.size + lM) :: [zg ν s.heap.size r])) (by rw [hv]; rfl) ?_
  refine lw_callV (a := lM) (ci := 8) C0 hK hr hc zq_X8_sylow e2 (zpos_ok (ps := [1394, 1395, 1396]) (by decide +kernel)) c1 (by decide +kernel) hn hl.1 (by rw [List.map_cons, zg_cat]; rcases (lv_cat (zg ν s.heap.size r)) with hq | hq <;> rw [zg_cat] at hq <;> simp [hq]) (by omega) (by omega) dL_law_652 (fun H locs hr => ?_)
  have hj : zg ν s.heap.size r = .int (zgI ν r) := zg_I ht
  refine W.eq (g2 := F0 m 655 Ls [.int (zgI ν r), .int (zgI ν r)]) (by rw [← hj]; rfl) ?_
  refine lv_icmp_eq (tgt := 1324) hx hb dL_law_655 (by decide) (fun _ => kk H locs h2 hr z1 z2) (fun hne => absurd rfl hne)
theorem lwc_down (C0 : lw_At p s m meth c b L xs) (hK : va_K D vwCl (zty cy) s) (hc : zCO l D cy ν s.heap.size 8 (zexec lbd lF 8)) {as : List zV} (hch : lchk false 117 206 as = true) (hv : as.map (zg ν s.heap.size) = [.int (xs 1)]) {f0 f1 : List zV} (g0 : lx1[0]? = some (.inl (7, f0))) (hL : L = 5) {H : Heap} {locs : List Loc} (hr : lwR s D cy ν lx1 H locs) {Ls : Array Slot} (hl : lv_has Ls 4 (lwl b s.heap.size lM (nI 0)))
    (kk : ∀ (H : Heap) (locs : List Loc) (h : zH), lwR s D cy ν h H locs → h.length ≤ 10000 → zsl h ≤ 3000000 → W p l e room_1 s m #[Value.ref b] below meth c H locs h.length (zsl h) (lw_Z below #[Value.ref b] s) (F0 m 1324 Ls [])) : W p l e room_1 s m #[Value.ref b] below meth c H locs lx1.length (zsl lx1) (lw_Z below #[Value.ref b] s) (F0 m 660 Ls []) := by
  obtain ⟨hx, hb, hr0, hml, hown, hts, hX, hbl, hlocks, hgv⟩ := id C0
  obtain ⟨r, h1, h2, fs, e1, c1, e2, ht, z1, z2⟩ := lchkG_spec hch
  replace e1 : zexec lbd lF 8 117 ((4, ((0 : Nat) : Int)) :: as) lx1 = some (some r, h1) := e1
  obtain ⟨⟨mo1, mo2⟩, -⟩ := hc _ _ _ _ _ _ zq_X8_down e2
  have hn : as.length = 1 := by have := congrArg List.length hv; simpa using this
  have hl2 := (⟨lv_at hl 3 rfl, lv_at hl 0 rfl⟩ : Ls[0]? = some (.val (.ref b)) ∧ Ls[3]? = some (.val (.int (nI 0))))
  refine lv_aload_n hx hb dL_law_660 rfl (lv_at hl 2 rfl) ?_
  refine lw_ld C0 hr (i := 0) (k := 1) (n := 1) (lv := []) hl2 rfl (by omega) (by omega) dL_law_661 dL_law_662 dL_law_663 dL_law_664 dL_law_665 ?_
  refine W.eq (g2 := F0 m 666 Ls ((as.map (zg ν s.heap.size)).reverse ++ .ref (s.heap.size + 0) :: [])) (by rw [hv]; rfl) ?_
  refine lw_callV (a := 0) (ci := 7) C0 hK hr hc zq_X7_down e1 (zpos_ok (ps := [804, 805, 806]) (by decide +kernel)) g0 (by decide +kernel) hn hl.1 (by decide) (by omega) (by omega) dL_law_666 (fun H locs hr => ?_)
  refine lv_aload_n hx hb dL_law_669 rfl (lv_at hl 1 rfl) ?_
  refine lw_ld C0 hr (i := 0) (k := 1) (n := 1) (lv := []) hl2 rfl (by omega) (by omega) dL_law_670 dL_law_671 dL_law_672 dL_law_673 dL_law_674 ?_
  refine W.eq (g2 := F0 m 675 Ls ((as.map (zg ν s.heap.size)).reverse ++ .ref (s.heap.size + lM) :: [zg ν s.heap.size r])) (by rw [hv]; rfl) ?_
  refine lw_callV (a := lM) (ci := 8) C0 hK hr hc zq_X8_down e2 (zpos_ok (ps := [1398, 1399, 1400]) (by decide +kernel)) c1 (by decide +kernel) hn hl.1 (by rw [List.map_cons, zg_cat]; rcases (lv_cat (zg ν s.heap.size r)) with hq | hq <;> rw [zg_cat] at hq <;> simp [hq]) (by omega) (by omega) dL_law_675 (fun H locs hr => ?_)
  have hj : zg ν s.heap.size r = .int (zgI ν r) := zg_I ht
  refine W.eq (g2 := F0 m 678 Ls [.int (zgI ν r), .int (zgI ν r)]) (by rw [← hj]; rfl) ?_
  refine lv_icmp_eq (tgt := 1324) hx hb dL_law_678 (by decide) (fun _ => kk H locs h2 hr z1 z2) (fun hne => absurd rfl hne)
theorem lwc_simple (C0 : lw_At p s m meth c b L xs) (hK : va_K D vwCl (zty cy) s) (hc : zCO l D cy ν s.heap.size 8 (zexec lbd lF 8)) {as : List zV} (hch : lchk false 118 207 as = true) (hv : as.map (zg ν s.heap.size) = []) {f0 f1 : List zV} (g0 : lx1[0]? = some (.inl (7, f0))) (hL : L = 5) {H : Heap} {locs : List Loc} (hr : lwR s D cy ν lx1 H locs) {Ls : Array Slot} (hl : lv_has Ls 4 (lwl b s.heap.size lM (nI 0)))
    (kk : ∀ (H : Heap) (locs : List Loc) (h : zH), lwR s D cy ν h H locs → h.length ≤ 10000 → zsl h ≤ 3000000 → W p l e room_1 s m #[Value.ref b] below meth c H locs h.length (zsl h) (lw_Z below #[Value.ref b] s) (F0 m 1324 Ls [])) : W p l e room_1 s m #[Value.ref b] below meth c H locs lx1.length (zsl lx1) (lw_Z below #[Value.ref b] s) (F0 m 683 Ls []) := by
  obtain ⟨hx, hb, hr0, hml, hown, hts, hX, hbl, hlocks, hgv⟩ := id C0
  obtain ⟨r, h1, h2, fs, e1, c1, e2, ht, z1, z2⟩ := lchkG_spec hch
  replace e1 : zexec lbd lF 8 118 ((4, ((0 : Nat) : Int)) :: as) lx1 = some (some r, h1) := e1
  obtain ⟨⟨mo1, mo2⟩, -⟩ := hc _ _ _ _ _ _ zq_X8_simple e2
  have hn : as.length = 0 := by have := congrArg List.length hv; simpa using this
  have hl2 := (⟨lv_at hl 3 rfl, lv_at hl 0 rfl⟩ : Ls[0]? = some (.val (.ref b)) ∧ Ls[3]? = some (.val (.int (nI 0))))
  refine lv_aload_n hx hb dL_law_683 rfl (lv_at hl 2 rfl) ?_
  refine W.eq (g2 := F0 m 684 Ls ((as.map (zg ν s.heap.size)).reverse ++ .ref (s.heap.size + 0) :: [])) (by rw [hv]; rfl) ?_
  refine lw_callV (a := 0) (ci := 7) C0 hK hr hc zq_X7_simple e1 (zpos_ok (ps := [808, 809, 810]) (by decide +kernel)) g0 (by decide +kernel) hn hl.1 (by decide) (by omega) (by omega) dL_law_684 (fun H locs hr => ?_)
  refine lv_aload_n hx hb dL_law_687 rfl (lv_at hl 1 rfl) ?_
  refine W.eq (g2 := F0 m 688 Ls ((as.map (zg ν s.heap.size)).reverse ++ .ref (s.heap.size + lM) :: [zg ν s.heap.size r])) (by rw [hv]; rfl) ?_
  refine lw_callV (a := lM) (ci := 8) C0 hK hr hc zq_X8_simple e2 (zpos_ok (ps := [1403, 1404, 1405]) (by decide +kernel)) c1 (by decide +kernel) hn hl.1 (by rw [List.map_cons, zg_cat]; rcases (lv_cat (zg ν s.heap.size r)) with hq | hq <;> rw [zg_cat] at hq <;> simp [hq]) (by omega) (by omega) dL_law_688 (fun H locs hr => ?_)
  have hj : zg ν s.heap.size r = .int (zgI ν r) := zg_I ht
  refine W.eq (g2 := F0 m 691 Ls [.int (zgI ν r), .int (zgI ν r)]) (by rw [← hj]; rfl) ?_
  refine lv_icmp_eq (tgt := 1324) hx hb dL_law_691 (by decide) (fun _ => kk H locs h2 hr z1 z2) (fun hne => absurd rfl hne)
theorem lwc_coset (C0 : lw_At p s m meth c b L xs) (hK : va_K D vwCl (zty cy) s) (hc : zCO l D cy ν s.heap.size 8 (zexec lbd lF 8)) {as : List zV} (hch : lchk true 119 214 as = true) (hv : as.map (zg ν s.heap.size) = [.int (xs 1), .int (xs 2)]) {f0 f1 : List zV} (g0 : lx1[0]? = some (.inl (7, f0))) (hL : L = 5) {H : Heap} {locs : List Loc} (hr : lwR s D cy ν lx1 H locs) {Ls : Array Slot} (hl : lv_has Ls 4 (lwl b s.heap.size lM (nI 0)))
    (kk : ∀ (H : Heap) (locs : List Loc) (h : zH), lwR s D cy ν h H locs → h.length ≤ 10000 → zsl h ≤ 3000000 → W p l e room_1 s m #[Value.ref b] below meth c H locs h.length (zsl h) (lw_Z below #[Value.ref b] s) (F0 m 1324 Ls [])) : W p l e room_1 s m #[Value.ref b] below meth c H locs lx1.length (zsl lx1) (lw_Z below #[Value.ref b] s) (F0 m 696 Ls []) := by
  obtain ⟨hx, hb, hr0, hml, hown, hts, hX, hbl, hlocks, hgv⟩ := id C0
  obtain ⟨r, h1, h2, fs, e1, c1, e2, ht, z1, z2⟩ := lchkG_spec hch
  replace e1 : zexec lbd lF 8 119 ((4, ((0 : Nat) : Int)) :: as) lx1 = some (some r, h1) := e1
  obtain ⟨⟨mo1, mo2⟩, -⟩ := hc _ _ _ _ _ _ zq_X8_coset e2
  have hn : as.length = 2 := by have := congrArg List.length hv; simpa using this
  have hl2 := (⟨lv_at hl 3 rfl, lv_at hl 0 rfl⟩ : Ls[0]? = some (.val (.ref b)) ∧ Ls[3]? = some (.val (.int (nI 0))))
  refine lv_aload_n hx hb dL_law_696 rfl (lv_at hl 2 rfl) ?_
  refine lw_ld C0 hr (i := 0) (k := 1) (n := 1) (lv := []) hl2 rfl (by omega) (by omega) dL_law_697 dL_law_698 dL_law_699 dL_law_700 dL_law_701 ?_
  refine lw_ld C0 hr (i := 0) (k := 2) (n := 2) (lv := []) hl2 rfl (by omega) (by omega) dL_law_702 dL_law_703 dL_law_704 dL_law_705 dL_law_706 ?_
  refine W.eq (g2 := F0 m 707 Ls ((as.map (zg ν s.heap.size)).reverse ++ .ref (s.heap.size + 0) :: [])) (by rw [hv]; rfl) ?_
  refine lw_callV (a := 0) (ci := 7) C0 hK hr hc zq_X7_coset e1 (zpos_ok (ps := [816, 817, 818]) (by decide +kernel)) g0 (by decide +kernel) hn hl.1 (by decide) (by omega) (by omega) dL_law_707 (fun H locs hr => ?_)
  refine lv_aload_n hx hb dL_law_710 rfl (lv_at hl 1 rfl) ?_
  refine lw_ld C0 hr (i := 0) (k := 1) (n := 1) (lv := []) hl2 rfl (by omega) (by omega) dL_law_711 dL_law_712 dL_law_713 dL_law_714 dL_law_715 ?_
  refine lw_ld C0 hr (i := 0) (k := 2) (n := 2) (lv := []) hl2 rfl (by omega) (by omega) dL_law_716 dL_law_717 dL_law_718 dL_law_719 dL_law_720 ?_
  refine W.eq (g2 := F0 m 721 Ls ((as.map (zg ν s.heap.size)).reverse ++ .ref (s.heap.size + lM) :: [zg ν s.heap.size r])) (by rw [hv]; rfl) ?_
  refine lw_callV (a := lM) (ci := 8) C0 hK hr hc zq_X8_coset e2 (zpos_ok (ps := [1407, 1408, 1409]) (by decide +kernel)) c1 (by decide +kernel) hn hl.1 (by rw [List.map_cons, zg_cat]; rcases (lv_cat (zg ν s.heap.size r)) with hq | hq <;> rw [zg_cat] at hq <;> simp [hq]) (by omega) (by omega) dL_law_721 (fun H locs hr => ?_)
  have hj : zg ν s.heap.size r = .long (zgJ ν r) := zg_J ht
  refine W.eq (g2 := F0 m 724 Ls [.long (zgJ ν r), .long (zgJ ν r)]) (by rw [← hj]; rfl) ?_
  refine W.lcmp hx hb dL_law_724 ?_
  refine lv_if_eq (tgt := 1324) hx hb dL_law_725 (by decide) (fun _ => kk H locs h2 hr z1 z2) (fun hne => absurd (by simp [lg_cmp]) hne)
theorem lwc_places (C0 : lw_At p s m meth c b L xs) (hK : va_K D vwCl (zty cy) s) (hc : zCO l D cy ν s.heap.size 8 (zexec lbd lF 8)) {as : List zV} (hch : lchk true 120 218 as = true) (hv : as.map (zg ν s.heap.size) = [.int (xs 1), .int (xs 2), .int (xs 3)]) {f0 f1 : List zV} (g0 : lx1[0]? = some (.inl (7, f0))) (hL : L = 5) {H : Heap} {locs : List Loc} (hr : lwR s D cy ν lx1 H locs) {Ls : Array Slot} (hl : lv_has Ls 4 (lwl b s.heap.size lM (nI 0)))
    (kk : ∀ (H : Heap) (locs : List Loc) (h : zH), lwR s D cy ν h H locs → h.length ≤ 10000 → zsl h ≤ 3000000 → W p l e room_1 s m #[Value.ref b] below meth c H locs h.length (zsl h) (lw_Z below #[Value.ref b] s) (F0 m 1324 Ls [])) : W p l e room_1 s m #[Value.ref b] below meth c H locs lx1.length (zsl lx1) (lw_Z below #[Value.ref b] s) (F0 m 730 Ls []) := by
  obtain ⟨hx, hb, hr0, hml, hown, hts, hX, hbl, hlocks, hgv⟩ := id C0
  obtain ⟨r, h1, h2, fs, e1, c1, e2, ht, z1, z2⟩ := lchkG_spec hch
  replace e1 : zexec lbd lF 8 120 ((4, ((0 : Nat) : Int)) :: as) lx1 = some (some r, h1) := e1
  obtain ⟨⟨mo1, mo2⟩, -⟩ := hc _ _ _ _ _ _ zq_X8_places e2
  have hn : as.length = 3 := by have := congrArg List.length hv; simpa using this
  have hl2 := (⟨lv_at hl 3 rfl, lv_at hl 0 rfl⟩ : Ls[0]? = some (.val (.ref b)) ∧ Ls[3]? = some (.val (.int (nI 0))))
  refine lv_aload_n hx hb dL_law_730 rfl (lv_at hl 2 rfl) ?_
  refine lw_ld C0 hr (i := 0) (k := 1) (n := 1) (lv := []) hl2 rfl (by omega) (by omega) dL_law_731 dL_law_732 dL_law_733 dL_law_734 dL_law_735 ?_
  refine lw_ld C0 hr (i := 0) (k := 2) (n := 2) (lv := []) hl2 rfl (by omega) (by omega) dL_law_736 dL_law_737 dL_law_738 dL_law_739 dL_law_740 ?_
  refine lw_ld C0 hr (i := 0) (k := 3) (n := 3) (lv := []) hl2 rfl (by omega) (by omega) dL_law_741 dL_law_742 dL_law_743 dL_law_744 dL_law_745 ?_
  refine W.eq (g2 := F0 m 746 Ls ((as.map (zg ν s.heap.size)).reverse ++ .ref (s.heap.size + 0) :: [])) (by rw [hv]; rfl) ?_
  refine lw_callV (a := 0) (ci := 7) C0 hK hr hc zq_X7_places e1 (zpos_ok (ps := [847, 848, 849]) (by decide +kernel)) g0 (by decide +kernel) hn hl.1 (by decide) (by omega) (by omega) dL_law_746 (fun H locs hr => ?_)
  refine lv_aload_n hx hb dL_law_749 rfl (lv_at hl 1 rfl) ?_
  refine lw_ld C0 hr (i := 0) (k := 1) (n := 1) (lv := []) hl2 rfl (by omega) (by omega) dL_law_750 dL_law_751 dL_law_752 dL_law_753 dL_law_754 ?_
  refine lw_ld C0 hr (i := 0) (k := 2) (n := 2) (lv := []) hl2 rfl (by omega) (by omega) dL_law_755 dL_law_756 dL_law_757 dL_law_758 dL_law_759 ?_
  refine lw_ld C0 hr (i := 0) (k := 3) (n := 3) (lv := []) hl2 rfl (by omega) (by omega) dL_law_760 dL_law_761 dL_law_762 dL_law_763 dL_law_764 ?_
  refine W.eq (g2 := F0 m 765 Ls ((as.map (zg ν s.heap.size)).reverse ++ .ref (s.heap.size + lM) :: [zg ν s.heap.size r])) (by rw [hv]; rfl) ?_
  refine lw_callV (a := lM) (ci := 8) C0 hK hr hc zq_X8_places e2 (zpos_ok (ps := [1429, 1430, 1431]) (by decide +kernel)) c1 (by decide +kernel) hn hl.1 (by rw [List.map_cons, zg_cat]; rcases (lv_cat (zg ν s.heap.size r)) with hq | hq <;> rw [zg_cat] at hq <;> simp [hq]) (by omega) (by omega) dL_law_765 (fun H locs hr => ?_)
  have hj : zg ν s.heap.size r = .long (zgJ ν r) := zg_J ht
  refine W.eq (g2 := F0 m 768 Ls [.long (zgJ ν r), .long (zgJ ν r)]) (by rw [← hj]; rfl) ?_
  refine W.lcmp hx hb dL_law_768 ?_
  refine lv_if_eq (tgt := 1324) hx hb dL_law_769 (by decide) (fun _ => kk H locs h2 hr z1 z2) (fun hne => absurd (by simp [lg_cmp]) hne)
theorem lwc_heaps (C0 : lw_At p s m meth c b L xs) (hK : va_K D vwCl (zty cy) s) (hc : zCO l D cy ν s.heap.size 8 (zexec lbd lF 8)) {as : List zV} (hch : lchk true 121 219 as = true) (hv : as.map (zg ν s.heap.size) = [.int (xs 1)]) {f0 f1 : List zV} (g0 : lx1[0]? = some (.inl (7, f0))) (hL : L = 5) {H : Heap} {locs : List Loc} (hr : lwR s D cy ν lx1 H locs) {Ls : Array Slot} (hl : lv_has Ls 4 (lwl b s.heap.size lM (nI 0)))
    (kk : ∀ (H : Heap) (locs : List Loc) (h : zH), lwR s D cy ν h H locs → h.length ≤ 10000 → zsl h ≤ 3000000 → W p l e room_1 s m #[Value.ref b] below meth c H locs h.length (zsl h) (lw_Z below #[Value.ref b] s) (F0 m 1324 Ls [])) : W p l e room_1 s m #[Value.ref b] below meth c H locs lx1.length (zsl lx1) (lw_Z below #[Value.ref b] s) (F0 m 774 Ls []) := by
  obtain ⟨hx, hb, hr0, hml, hown, hts, hX, hbl, hlocks, hgv⟩ := id C0
  obtain ⟨r, h1, h2, fs, e1, c1, e2, ht, z1, z2⟩ := lchkG_spec hch
  replace e1 : zexec lbd lF 8 121 ((4, ((0 : Nat) : Int)) :: as) lx1 = some (some r, h1) := e1
  obtain ⟨⟨mo1, mo2⟩, -⟩ := hc _ _ _ _ _ _ zq_X8_heaps e2
  have hn : as.length = 1 := by have := congrArg List.length hv; simpa using this
  have hl2 := (⟨lv_at hl 3 rfl, lv_at hl 0 rfl⟩ : Ls[0]? = some (.val (.ref b)) ∧ Ls[3]? = some (.val (.int (nI 0))))
  refine lv_aload_n hx hb dL_law_774 rfl (lv_at hl 2 rfl) ?_
  refine lw_ld C0 hr (i := 0) (k := 1) (n := 1) (lv := []) hl2 rfl (by omega) (by omega) dL_law_775 dL_law_776 dL_law_777 dL_law_778 dL_law_779 ?_
  refine W.eq (g2 := F0 m 780 Ls ((as.map (zg ν s.heap.size)).reverse ++ .ref (s.heap.size + 0) :: [])) (by rw [hv]; rfl) ?_
  refine lw_callV (a := 0) (ci := 7) C0 hK hr hc zq_X7_heaps e1 (zpos_ok (ps := [884, 885, 886]) (by decide +kernel)) g0 (by decide +kernel) hn hl.1 (by decide) (by omega) (by omega) dL_law_780 (fun H locs hr => ?_)
  refine lv_aload_n hx hb dL_law_783 rfl (lv_at hl 1 rfl) ?_
  refine lw_ld C0 hr (i := 0) (k := 1) (n := 1) (lv := []) hl2 rfl (by omega) (by omega) dL_law_784 dL_law_785 dL_law_786 dL_law_787 dL_law_788 ?_
  refine W.eq (g2 := F0 m 789 Ls ((as.map (zg ν s.heap.size)).reverse ++ .ref (s.heap.size + lM) :: [zg ν s.heap.size r])) (by rw [hv]; rfl) ?_
  refine lw_callV (a := lM) (ci := 8) C0 hK hr hc zq_X8_heaps e2 (zpos_ok (ps := [1453, 1454, 1455]) (by decide +kernel)) c1 (by decide +kernel) hn hl.1 (by rw [List.map_cons, zg_cat]; rcases (lv_cat (zg ν s.heap.size r)) with hq | hq <;> rw [zg_cat] at hq <;> simp [hq]) (by omega) (by omega) dL_law_789 (fun H locs hr => ?_)
  have hj : zg ν s.heap.size r = .long (zgJ ν r) := zg_J ht
  refine W.eq (g2 := F0 m 792 Ls [.long (zgJ ν r), .long (zgJ ν r)]) (by rw [← hj]; rfl) ?_
  refine W.lcmp hx hb dL_law_792 ?_
  refine lv_if_eq (tgt := 1324) hx hb dL_law_793 (by decide) (fun _ => kk H locs h2 hr z1 z2) (fun hne => absurd (by simp [lg_cmp]) hne)
theorem lwc_both (C0 : lw_At p s m meth c b L xs) (hK : va_K D vwCl (zty cy) s) (hc : zCO l D cy ν s.heap.size 8 (zexec lbd lF 8)) {as : List zV} (hch : lchk true 122 221 as = true) (hv : as.map (zg ν s.heap.size) = [.int (xs 1), .int (xs 2), .int (xs 3), .int (xs 4)]) {f0 f1 : List zV} (g0 : lx1[0]? = some (.inl (7, f0))) (hL : L = 5) {H : Heap} {locs : List Loc} (hr : lwR s D cy ν lx1 H locs) {Ls : Array Slot} (hl : lv_has Ls 4 (lwl b s.heap.size lM (nI 0)))
    (kk : ∀ (H : Heap) (locs : List Loc) (h : zH), lwR s D cy ν h H locs → h.length ≤ 10000 → zsl h ≤ 3000000 → W p l e room_1 s m #[Value.ref b] below meth c H locs h.length (zsl h) (lw_Z below #[Value.ref b] s) (F0 m 1324 Ls [])) : W p l e room_1 s m #[Value.ref b] below meth c H locs lx1.length (zsl lx1) (lw_Z below #[Value.ref b] s) (F0 m 798 Ls []) := by
  obtain ⟨hx, hb, hr0, hml, hown, hts, hX, hbl, hlocks, hgv⟩ := id C0
  obtain ⟨r, h1, h2, fs, e1, c1, e2, ht, z1, z2⟩ := lchkG_spec hch
  replace e1 : zexec lbd lF 8 122 ((4, ((0 : Nat) : Int)) :: as) lx1 = some (some r, h1) := e1
  obtain ⟨⟨mo1, mo2⟩, -⟩ := hc _ _ _ _ _ _ zq_X8_both e2
  have hn : as.length = 4 := by have := congrArg List.length hv; simpa using this
  have hl2 := (⟨lv_at hl 3 rfl, lv_at hl 0 rfl⟩ : Ls[0]? = some (.val (.ref b)) ∧ Ls[3]? = some (.val (.int (nI 0))))
  refine lv_aload_n hx hb dL_law_798 rfl (lv_at hl 2 rfl) ?_
  refine lw_ld C0 hr (i := 0) (k := 1) (n := 1) (lv := []) hl2 rfl (by omega) (by omega) dL_law_799 dL_law_800 dL_law_801 dL_law_802 dL_law_803 ?_
  refine lw_ld C0 hr (i := 0) (k := 2) (n := 2) (lv := []) hl2 rfl (by omega) (by omega) dL_law_804 dL_law_805 dL_law_806 dL_law_807 dL_law_808 ?_
  refine lw_ld C0 hr (i := 0) (k := 3) (n := 3) (lv := []) hl2 rfl (by omega) (by omega) dL_law_809 dL_law_810 dL_law_811 dL_law_812 dL_law_813 ?_
  refine lw_ld C0 hr (i := 0) (k := 4) (n := 4) (lv := []) hl2 rfl (by omega) (by omega) dL_law_814 dL_law_815 dL_law_816 dL_law_817 dL_law_818 ?_
  refine W.eq (g2 := F0 m 819 Ls ((as.map (zg ν s.heap.size)).reverse ++ .ref (s.heap.size + 0) :: [])) (by rw [hv]; rfl) ?_
  refine lw_callV (a := 0) (ci := 7) C0 hK hr hc zq_X7_both e1 (zpos_ok (ps := [898, 899, 900]) (by decide +kernel)) g0 (by decide +kernel) hn hl.1 (by decide) (by omega) (by omega) dL_law_819 (fun H locs hr => ?_)
  refine lv_aload_n hx hb dL_law_822 rfl (lv_at hl 1 rfl) ?_
  refine lw_ld C0 hr (i := 0) (k := 1) (n := 1) (lv := []) hl2 rfl (by omega) (by omega) dL_law_823 dL_law_824 dL_law_825 dL_law_826 dL_law_827 ?_
  refine lw_ld C0 hr (i := 0) (k := 2) (n := 2) (lv := []) hl2 rfl (by omega) (by omega) dL_law_828 dL_law_829 dL_law_830 dL_law_831 dL_law_832 ?_
  refine lw_ld C0 hr (i := 0) (k := 3) (n := 3) (lv := []) hl2 rfl (by omega) (by omega) dL_law_833 dL_law_834 dL_law_835 dL_law_836 dL_law_837 ?_
  refine lw_ld C0 hr (i := 0) (k := 4) (n := 4) (lv := []) hl2 rfl (by omega) (by omega) dL_law_838 dL_law_839 dL_law_840 dL_law_841 dL_law_842 ?_
  refine W.eq (g2 := F0 m 843 Ls ((as.map (zg ν s.heap.size)).reverse ++ .ref (s.heap.size + lM) :: [zg ν s.heap.size r])) (by rw [hv]; rfl) ?_
  refine lw_callV (a := lM) (ci := 8) C0 hK hr hc zq_X8_both e2 (zpos_ok (ps := [1457, 1458, 1459]) (by decide +kernel)) c1 (by decide +kernel) hn hl.1 (by rw [List.map_cons, zg_cat]; rcases (lv_cat (zg ν s.heap.size r)) with hq | hq <;> rw [zg_cat] at hq <;> simp [hq]) (by omega) (by omega) dL_law_843 (fun H locs hr => ?_)
  have hj : zg ν s.heap.size r = .long (zgJ ν r) := zg_J ht
  refine W.eq (g2 := F0 m 846 Ls [.long (zgJ ν r), .long (zgJ ν r)]) (by rw [← hj]; rfl) ?_
  refine W.lcmp hx hb dL_law_846 ?_
  refine lv_if_eq (tgt := 1324) hx hb dL_law_847 (by decide) (fun _ => kk H locs h2 hr z1 z2) (fun hne => absurd (by simp [lg_cmp]) hne)
theorem lwc_colour (C0 : lw_At p s m meth c b L xs) (hK : va_K D vwCl (zty cy) s) (hc : zCO l D cy ν s.heap.size 8 (zexec lbd lF 8)) {as : List zV} (hch : lchk true 123 224 as = true) (hv : as.map (zg ν s.heap.size) = [.int (xs 1), .int (xs 2), .int (xs 3)]) {f0 f1 : List zV} (g0 : lx1[0]? = some (.inl (7, f0))) (hL : L = 5) {H : Heap} {locs : List Loc} (hr : lwR s D cy ν lx1 H locs) {Ls : Array Slot} (hl : lv_has Ls 4 (lwl b s.heap.size lM (nI 0)))
    (kk : ∀ (H : Heap) (locs : List Loc) (h : zH), lwR s D cy ν h H locs → h.length ≤ 10000 → zsl h ≤ 3000000 → W p l e room_1 s m #[Value.ref b] below meth c H locs h.length (zsl h) (lw_Z below #[Value.ref b] s) (F0 m 1324 Ls [])) : W p l e room_1 s m #[Value.ref b] below meth c H locs lx1.length (zsl lx1) (lw_Z below #[Value.ref b] s) (F0 m 852 Ls []) := by
  obtain ⟨hx, hb, hr0, hml, hown, hts, hX, hbl, hlocks, hgv⟩ := id C0
  obtain ⟨r, h1, h2, fs, e1, c1, e2, ht, z1, z2⟩ := lchkG_spec hch
  replace e1 : zexec lbd lF 8 123 ((4, ((0 : Nat) : Int)) :: as) lx1 = some (some r, h1) := e1
  obtain ⟨⟨mo1, mo2⟩, -⟩ := hc _ _ _ _ _ _ zq_X8_colour e2
  have hn : as.length = 3 := by have := congrArg List.length hv; simpa using this
  have hl2 := (⟨lv_at hl 3 rfl, lv_at hl 0 rfl⟩ : Ls[0]? = some (.val (.ref b)) ∧ Ls[3]? = some (.val (.int (nI 0))))
  refine lv_aload_n hx hb dL_law_852 rfl (lv_at hl 2 rfl) ?_
  refine lw_ld C0 hr (i := 0) (k := 1) (n := 1) (lv := []) hl2 rfl (by omega) (by omega) dL_law_853 dL_law_854 dL_law_855 dL_law_856 dL_law_857 ?_
  refine lw_ld C0 hr (i := 0) (k := 2) (n := 2) (lv := []) hl2 rfl (by omega) (by omega) dL_law_858 dL_law_859 dL_law_860 dL_law_861 dL_law_862 ?_
  refine lw_ld C0 hr (i := 0) (k := 3) (n := 3) (lv := []) hl2 rfl (by omega) (by omega) dL_law_863 dL_law_864 dL_law_865 dL_law_866 dL_law_867 ?_
  refine W.eq (g2 := F0 m 868 Ls ((as.map (zg ν s.heap.size)).reverse ++ .ref (s.heap.size + 0) :: [])) (by rw [hv]; rfl) ?_
  refine lw_callV (a := 0) (ci := 7) C0 hK hr hc zq_X7_colour e1 (zpos_ok (ps := [924, 925, 926]) (by decide +kernel)) g0 (by decide +kernel) hn hl.1 (by decide) (by omega) (by omega) dL_law_868 (fun H locs hr => ?_)
  refine lv_aload_n hx hb dL_law_871 rfl (lv_at hl 1 rfl) ?_
  refine lw_ld C0 hr (i := 0) (k := 1) (n := 1) (lv := []) hl2 rfl (by omega) (by omega) dL_law_872 dL_law_873 dL_law_874 dL_law_875 dL_law_876 ?_
  refine lw_ld C0 hr (i := 0) (k := 2) (n := 2) (lv := []) hl2 rfl (by omega) (by omega) dL_law_877 dL_law_878 dL_law_879 dL_law_880 dL_law_881 ?_
  refine lw_ld C0 hr (i := 0) (k := 3) (n := 3) (lv := []) hl2 rfl (by omega) (by omega) dL_law_882 dL_law_883 dL_law_884 dL_law_885 dL_law_886 ?_
  refine W.eq (g2 := F0 m 887 Ls ((as.map (zg ν s.heap.size)).reverse ++ .ref (s.heap.size + lM) :: [zg ν s.heap.size r])) (by rw [hv]; rfl) ?_
  refine lw_callV (a := lM) (ci := 8) C0 hK hr hc zq_X8_colour e2 (zpos_ok (ps := [1471, 1472, 1473]) (by decide +kernel)) c1 (by decide +kernel) hn hl.1 (by rw [List.map_cons, zg_cat]; rcases (lv_cat (zg ν s.heap.size r)) with hq | hq <;> rw [zg_cat] at hq <;> simp [hq]) (by omega) (by omega) dL_law_887 (fun H locs hr => ?_)
  have hj : zg ν s.heap.size r = .long (zgJ ν r) := zg_J ht
  refine W.eq (g2 := F0 m 890 Ls [.long (zgJ ν r), .long (zgJ ν r)]) (by rw [← hj]; rfl) ?_
  refine W.lcmp hx hb dL_law_890 ?_
  refine lv_if_eq (tgt := 1324) hx hb dL_law_891 (by decide) (fun _ => kk H locs h2 hr z1 z2) (fun hne => absurd (by simp [lg_cmp]) hne)
theorem lwc_many (C0 : lw_At p s m meth c b L xs) (hK : va_K D vwCl (zty cy) s) (hc : zCO l D cy ν s.heap.size 8 (zexec lbd lF 8)) {as : List zV} (hch : lchk true 124 225 as = true) (hv : as.map (zg ν s.heap.size) = [.int (xs 1), .int (xs 2), .int (xs 3)]) {f0 f1 : List zV} (g0 : lx1[0]? = some (.inl (7, f0))) (hL : L = 5) {H : Heap} {locs : List Loc} (hr : lwR s D cy ν lx1 H locs) {Ls : Array Slot} (hl : lv_has Ls 4 (lwl b s.heap.size lM (nI 0)))
    (kk : ∀ (H : Heap) (locs : List Loc) (h : zH), lwR s D cy ν h H locs → h.length ≤ 10000 → zsl h ≤ 3000000 → W p l e room_1 s m #[Value.ref b] below meth c H locs h.length (zsl h) (lw_Z below #[Value.ref b] s) (F0 m 1324 Ls [])) : W p l e room_1 s m #[Value.ref b] below meth c H locs lx1.length (zsl lx1) (lw_Z below #[Value.ref b] s) (F0 m 896 Ls []) := by
  obtain ⟨hx, hb, hr0, hml, hown, hts, hX, hbl, hlocks, hgv⟩ := id C0
  obtain ⟨r, h1, h2, fs, e1, c1, e2, ht, z1, z2⟩ := lchkG_spec hch
  replace e1 : zexec lbd lF 8 124 ((4, ((0 : Nat) : Int)) :: as) lx1 = some (some r, h1) := e1
  obtain ⟨⟨mo1, mo2⟩, -⟩ := hc _ _ _ _ _ _ zq_X8_many e2
  have hn : as.length = 3 := by have := congrArg List.length hv; simpa using this
  have hl2 := (⟨lv_at hl 3 rfl, lv_at hl 0 rfl⟩ : Ls[0]? = some (.val (.ref b)) ∧ Ls[3]? = some (.val (.int (nI 0))))
  refine lv_aload_n hx hb dL_law_896 rfl (lv_at hl 2 rfl) ?_
  refine lw_ld C0 hr (i := 0) (k := 1) (n := 1) (lv := []) hl2 rfl (by omega) (by omega) dL_law_897 dL_law_898 dL_law_899 dL_law_900 dL_law_901 ?_
  refine lw_ld C0 hr (i := 0) (k := 2) (n := 2) (lv := []) hl2 rfl (by omega) (by omega) dL_law_902 dL_law_903 dL_law_904 dL_law_905 dL_law_906 ?_
  refine lw_ld C0 hr (i := 0) (k := 3) (n := 3) (lv := []) hl2 rfl (by omega) (by omega) dL_law_907 dL_law_908 dL_law_909 dL_law_910 dL_law_911 ?_
  refine W.eq (g2 := F0 m 912 Ls ((as.map (zg ν s.heap.size)).reverse ++ .ref (s.heap.size + 0) :: [])) (by rw [hv]; rfl) ?_
  refine lw_callV (a := 0) (ci := 7) C0 hK hr hc zq_X7_many e1 (zpos_ok (ps := [945, 946, 947]) (by decide +kernel)) g0 (by decide +kernel) hn hl.1 (by decide) (by omega) (by omega) dL_law_912 (fun H locs hr => ?_)
  refine lv_aload_n hx hb dL_law_915 rfl (lv_at hl 1 rfl) ?_
  refine lw_ld C0 hr (i := 0) (k := 1) (n := 1) (lv := []) hl2 rfl (by omega) (by omega) dL_law_916 dL_law_917 dL_law_918 dL_law_919 dL_law_920 ?_
  refine lw_ld C0 hr (i := 0) (k := 2) (n := 2) (lv := []) hl2 rfl (by omega) (by omega) dL_law_921 dL_law_922 dL_law_923 dL_law_924 dL_law_925 ?_
  refine lw_ld C0 hr (i := 0) (k := 3) (n := 3) (lv := []) hl2 rfl (by omega) (by omega) dL_law_926 dL_law_927 dL_law_928 dL_law_929 dL_law_930 ?_
  refine W.eq (g2 := F0 m 931 Ls ((as.map (zg ν s.heap.size)).reverse ++ .ref (s.heap.size + lM) :: [zg ν s.heap.size r])) (by rw [hv]; rfl) ?_
  refine lw_callV (a := lM) (ci := 8) C0 hK hr hc zq_X8_many e2 (zpos_ok (ps := [1483, 1484, 1485]) (by decide +kernel)) c1 (by decide +kernel) hn hl.1 (by rw [List.map_cons, zg_cat]; rcases (lv_cat (zg ν s.heap.size r)) with hq | hq <;> rw [zg_cat] at hq <;> simp [hq]) (by omega) (by omega) dL_law_931 (fun H locs hr => ?_)
  have hj : zg ν s.heap.size r = .long (zgJ ν r) := zg_J ht
  refine W.eq (g2 := F0 m 934 Ls [.long (zgJ ν r), .long (zgJ ν r)]) (by rw [← hj]; rfl) ?_
  refine W.lcmp hx hb dL_law_934 ?_
  refine lv_if_eq (tgt := 1324) hx hb dL_law_935 (by decide) (fun _ => kk H locs h2 hr z1 z2) (fun hne => absurd (by simp [lg_cmp]) hne)
theorem lwc_parts (C0 : lw_At p s m meth c b L xs) (hK : va_K D vwCl (zty cy) s) (hc : zCO l D cy ν s.heap.size 8 (zexec lbd lF 8)) {as : List zV} (hch : lchk true 125 226 as = true) (hv : as.map (zg ν s.heap.size) = [.int (xs 1), .int (xs 2)]) {f0 f1 : List zV} (g0 : lx1[0]? = some (.inl (7, f0))) (hL : L = 5) {H : Heap} {locs : List Loc} (hr : lwR s D cy ν lx1 H locs) {Ls : Array Slot} (hl : lv_has Ls 4 (lwl b s.heap.size lM (nI 0)))
    (kk : ∀ (H : Heap) (locs : List Loc) (h : zH), lwR s D cy ν h H locs → h.length ≤ 10000 → zsl h ≤ 3000000 → W p l e room_1 s m #[Value.ref b] below meth c H locs h.length (zsl h) (lw_Z below #[Value.ref b] s) (F0 m 1324 Ls [])) : W p l e room_1 s m #[Value.ref b] below meth c H locs lx1.length (zsl lx1) (lw_Z below #[Value.ref b] s) (F0 m 940 Ls []) := by
  obtain ⟨hx, hb, hr0, hml, hown, hts, hX, hbl, hlocks, hgv⟩ := id C0
  obtain ⟨r, h1, h2, fs, e1, c1, e2, ht, z1, z2⟩ := lchkG_spec hch
  replace e1 : zexec lbd lF 8 125 ((4, ((0 : Nat) : Int)) :: as) lx1 = some (some r, h1) := e1
  obtain ⟨⟨mo1, mo2⟩, -⟩ := hc _ _ _ _ _ _ zq_X8_parts e2
  have hn : as.length = 2 := by have := congrArg List.length hv; simpa using this
  have hl2 := (⟨lv_at hl 3 rfl, lv_at hl 0 rfl⟩ : Ls[0]? = some (.val (.ref b)) ∧ Ls[3]? = some (.val (.int (nI 0))))
  refine lv_aload_n hx hb dL_law_940 rfl (lv_at hl 2 rfl) ?_
  refine lw_ld C0 hr (i := 0) (k := 1) (n := 1) (lv := []) hl2 rfl (by omega) (by omega) dL_law_941 dL_law_942 dL_law_943 dL_law_944 dL_law_945 ?_
  refine lw_ld C0 hr (i := 0) (k := 2) (n := 2) (lv := []) hl2 rfl (by omega) (by omega) dL_law_946 dL_law_947 dL_law_948 dL_law_949 dL_law_950 ?_
  refine W.eq (g2 := F0 m 951 Ls ((as.map (zg ν s.heap.size)).reverse ++ .ref (s.heap.size + 0) :: [])) (by rw [hv]; rfl) ?_
  refine lw_callV (a := 0) (ci := 7) C0 hK hr hc zq_X7_parts e1 (zpos_ok (ps := [954, 955, 956]) (by decide +kernel)) g0 (by decide +kernel) hn hl.1 (by decide) (by omega) (by omega) dL_law_951 (fun H locs hr => ?_)
  refine lv_aload_n hx hb dL_law_954 rfl (lv_at hl 1 rfl) ?_
  refine lw_ld C0 hr (i := 0) (k := 1) (n := 1) (lv := []) hl2 rfl (by omega) (by omega) dL_law_955 dL_law_956 dL_law_957 dL_law_958 dL_law_959 ?_
  refine lw_ld C0 hr (i := 0) (k := 2) (n := 2) (lv := []) hl2 rfl (by omega) (by omega) dL_law_960 dL_law_961 dL_law_962 dL_law_963 dL_law_964 ?_
  refine W.eq (g2 := F0 m 965 Ls ((as.map (zg ν s.heap.size)).reverse ++ .ref (s.heap.size + lM) :: [zg ν s.heap.size r])) (by rw [hv]; rfl) ?_
  refine lw_callV (a := lM) (ci := 8) C0 hK hr hc zq_X8_parts e2 (zpos_ok (ps := [1488, 1489, 1490]) (by decide +kernel)) c1 (by decide +kernel) hn hl.1 (by rw [List.map_cons, zg_cat]; rcases (lv_cat (zg ν s.heap.size r)) with hq | hq <;> rw [zg_cat] at hq <;> simp [hq]) (by omega) (by omega) dL_law_965 (fun H locs hr => ?_)
  have hj : zg ν s.heap.size r = .long (zgJ ν r) := zg_J ht
  refine W.eq (g2 := F0 m 968 Ls [.long (zgJ ν r), .long (zgJ ν r)]) (by rw [← hj]; rfl) ?_
  refine W.lcmp hx hb dL_law_968 ?_
  refine lv_if_eq (tgt := 1324) hx hb dL_law_969 (by decide) (fun _ => kk H locs h2 hr z1 z2) (fun hne => absurd (by simp [lg_cmp]) hne)
theorem lwc_mark (C0 : lw_At p s m meth c b L xs) (hK : va_K D vwCl (zty cy) s) (hc : zCO l D cy ν s.heap.size 8 (zexec lbd lF 8)) {as : List zV} (hch : lchk true 126 227 as = true) (hv : as.map (zg ν s.heap.size) = [.int (xs 1), .int (xs 2)]) {f0 f1 : List zV} (g0 : lx1[0]? = some (.inl (7, f0))) (hL : L = 5) {H : Heap} {locs : List Loc} (hr : lwR s D cy ν lx1 H locs) {Ls : Array Slot} (hl : lv_has Ls 4 (lwl b s.heap.size lM (nI 0)))
    (kk : ∀ (H : Heap) (locs : List Loc) (h : zH), lwR s D cy ν h H locs → h.length ≤ 10000 → zsl h ≤ 3000000 → W p l e room_1 s m #[Value.ref b] below meth c H locs h.length (zsl h) (lw_Z below #[Value.ref b] s) (F0 m 1324 Ls [])) : W p l e room_1 s m #[Value.ref b] below meth c H locs lx1.length (zsl lx1) (lw_Z below #[Value.ref b] s) (F0 m 974 Ls []) := by
  obtain ⟨hx, hb, hr0, hml, hown, hts, hX, hbl, hlocks, hgv⟩ := id C0
  obtain ⟨r, h1, h2, fs, e1, c1, e2, ht, z1, z2⟩ := lchkG_spec hch
  replace e1 : zexec lbd lF 8 126 ((4, ((0 : Nat) : Int)) :: as) lx1 = some (some r, h1) := e1
  obtain ⟨⟨mo1, mo2⟩, -⟩ := hc _ _ _ _ _ _ zq_X8_mark e2
  have hn : as.length = 2 := by have := congrArg List.length hv; simpa using this
  have hl2 := (⟨lv_at hl 3 rfl, lv_at hl 0 rfl⟩ : Ls[0]? = some (.val (.ref b)) ∧ Ls[3]? = some (.val (.int (nI 0))))
  refine lv_aload_n hx hb dL_law_974 rfl (lv_at hl 2 rfl) ?_
  refine lw_ld C0 hr (i := 0) (k := 1) (n := 1) (lv := []) hl2 rfl (by omega) (by omega) dL_law_975 dL_law_976 dL_law_977 dL_law_978 dL_law_979 ?_
  refine lw_ld C0 hr (i := 0) (k := 2) (n := 2) (lv := []) hl2 rfl (by omega) (by omega) dL_law_980 dL_law_981 dL_law_982 dL_law_983 dL_law_984 ?_
  refine W.eq (g2 := F0 m 985 Ls ((as.map (zg ν s.heap.size)).reverse ++ .ref (s.heap.size + 0) :: [])) (by rw [hv]; rfl) ?_
  refine lw_callV (a := 0) (ci := 7) C0 hK hr hc zq_X7_mark e1 (zpos_ok (ps := [960, 961, 962]) (by decide +kernel)) g0 (by decide +kernel) hn hl.1 (by decide) (by omega) (by omega) dL_law_985 (fun H locs hr => ?_)
  refine lv_aload_n hx hb dL_law_988 rfl (lv_at hl 1 rfl) ?_
  refine lw_ld C0 hr (i := 0) (k := 1) (n := 1) (lv := []) hl2 rfl (by omega) (by omega) dL_law_989 dL_law_990 dL_law_991 dL_law_992 dL_law_993 ?_
  refine lw_ld C0 hr (i := 0) (k := 2) (n := 2) (lv := []) hl2 rfl (by omega) (by omega) dL_law_994 dL_law_995 dL_law_996 dL_law_997 dL_law_998 ?_
  refine W.eq (g2 := F0 m 999 Ls ((as.map (zg ν s.heap.size)).reverse ++ .ref (s.heap.size + lM) :: [zg ν s.heap.size r])) (by rw [hv]; rfl) ?_
  refine lw_callV (a := lM) (ci := 8) C0 hK hr hc zq_X8_mark e2 (zpos_ok (ps := [1492, 1493, 1494]) (by decide +kernel)) c1 (by decide +kernel) hn hl.1 (by rw [List.map_cons, zg_cat]; rcases (lv_cat (zg ν s.heap.size r)) with hq | hq <;> rw [zg_cat] at hq <;> simp [hq]) (by omega) (by omega) dL_law_999 (fun H locs hr => ?_)
  have hj : zg ν s.heap.size r = .long (zgJ ν r) := zg_J ht
  refine W.eq (g2 := F0 m 1002 Ls [.long (zgJ ν r), .long (zgJ ν r)]) (by rw [← hj]; rfl) ?_
  refine W.lcmp hx hb dL_law_1002 ?_
  refine lv_if_eq (tgt := 1324) hx hb dL_law_1003 (by decide) (fun _ => kk H locs h2 hr z1 z2) (fun hne => absurd (by simp [lg_cmp]) hne)
theorem lwc_act (C0 : lw_At p s m meth c b L xs) (hK : va_K D vwCl (zty cy) s) (hc : zCO l D cy ν s.heap.size 8 (zexec lbd lF 8)) {as : List zV} (hch : lchk true 127 229 as = true) (hv : as.map (zg ν s.heap.size) = [.int (xs 1), .int (xs 2), .int (xs 3)]) {f0 f1 : List zV} (g0 : lx1[0]? = some (.inl (7, f0))) (hL : L = 5) {H : Heap} {locs : List Loc} (hr : lwR s D cy ν lx1 H locs) {Ls : Array Slot} (hl : lv_has Ls 4 (lwl b s.heap.size lM (nI 0)))
    (kk : ∀ (H : Heap) (locs : List Loc) (h : zH), lwR s D cy ν h H locs → h.length ≤ 10000 → zsl h ≤ 3000000 → W p l e room_1 s m #[Value.ref b] below meth c H locs h.length (zsl h) (lw_Z below #[Value.ref b] s) (F0 m 1324 Ls [])) : W p l e room_1 s m #[Value.ref b] below meth c H locs lx1.length (zsl lx1) (lw_Z below #[Value.ref b] s) (F0 m 1008 Ls []) := by
  obtain ⟨hx, hb, hr0, hml, hown, hts, hX, hbl, hlocks, hgv⟩ := id C0
  obtain ⟨r, h1, h2, fs, e1, c1, e2, ht, z1, z2⟩ := lchkG_spec hch
  replace e1 : zexec lbd lF 8 127 ((4, ((0 : Nat) : Int)) :: as) lx1 = some (some r, h1) := e1
  obtain ⟨⟨mo1, mo2⟩, -⟩ := hc _ _ _ _ _ _ zq_X8_act e2
  have hn : as.length = 3 := by have := congrArg List.length hv; simpa using this
  have hl2 := (⟨lv_at hl 3 rfl, lv_at hl 0 rfl⟩ : Ls[0]? = some (.val (.ref b)) ∧ Ls[3]? = some (.val (.int (nI 0))))
  refine lv_aload_n hx hb dL_law_1008 rfl (lv_at hl 2 rfl) ?_
  refine lw_ld C0 hr (i := 0) (k := 1) (n := 1) (lv := []) hl2 rfl (by omega) (by omega) dL_law_1009 dL_law_1010 dL_law_1011 dL_law_1012 dL_law_1013 ?_
  refine lw_ld C0 hr (i := 0) (k := 2) (n := 2) (lv := []) hl2 rfl (by omega) (by omega) dL_law_1014 dL_law_1015 dL_law_1016 dL_law_1017 dL_law_1018 ?_
  refine lw_ld C0 hr (i := 0) (k := 3) (n := 3) (lv := []) hl2 rfl (by omega) (by omega) dL_law_1019 dL_law_1020 dL_law_1021 dL_law_1022 dL_law_1023 ?_
  refine W.eq (g2 := F0 m 1024 Ls ((as.map (zg ν s.heap.size)).reverse ++ .ref (s.heap.size + 0) :: [])) (by rw [hv]; rfl) ?_
  refine lw_callV (a := 0) (ci := 7) C0 hK hr hc zq_X7_act e1 (zpos_ok (ps := [965, 966, 967]) (by decide +kernel)) g0 (by decide +kernel) hn hl.1 (by decide) (by omega) (by omega) dL_law_1024 (fun H locs hr => ?_)
  refine lv_aload_n hx hb dL_law_1027 rfl (lv_at hl 1 rfl) ?_
  refine lw_ld C0 hr (i := 0) (k := 1) (n := 1) (lv := []) hl2 rfl (by omega) (by omega) dL_law_1028 dL_law_1029 dL_law_1030 dL_law_1031 dL_law_1032 ?_
  refine lw_ld C0 hr (i := 0) (k := 2) (n := 2) (lv := []) hl2 rfl (by omega) (by omega) dL_law_1033 dL_law_1034 dL_law_1035 dL_law_1036 dL_law_1037 ?_
  refine lw_ld C0 hr (i := 0) (k := 3) (n := 3) (lv := []) hl2 rfl (by omega) (by omega) dL_law_1038 dL_law_1039 dL_law_1040 dL_law_1041 dL_law_1042 ?_
  refine W.eq (g2 := F0 m 1043 Ls ((as.map (zg ν s.heap.size)).reverse ++ .ref (s.heap.size + lM) :: [zg ν s.heap.size r])) (by rw [hv]; rfl) ?_
  refine lw_callV (a := lM) (ci := 8) C0 hK hr hc zq_X8_act e2 (zpos_ok (ps := [1496, 1497, 1498]) (by decide +kernel)) c1 (by decide +kernel) hn hl.1 (by rw [List.map_cons, zg_cat]; rcases (lv_cat (zg ν s.heap.size r)) with hq | hq <;> rw [zg_cat] at hq <;> simp [hq]) (by omega) (by omega) dL_law_1043 (fun H locs hr => ?_)
  have hj : zg ν s.heap.size r = .long (zgJ ν r) := zg_J ht
  refine W.eq (g2 := F0 m 1046 Ls [.long (zgJ ν r), .long (zgJ ν r)]) (by rw [← hj]; rfl) ?_
  refine W.lcmp hx hb dL_law_1046 ?_
  refine lv_if_eq (tgt := 1324) hx hb dL_law_1047 (by decide) (fun _ => kk H locs h2 hr z1 z2) (fun hne => absurd (by simp [lg_cmp]) hne)
theorem lwc_same (C0 : lw_At p s m meth c b L xs) (hK : va_K D vwCl (zty cy) s) (hc : zCO l D cy ν s.heap.size 8 (zexec lbd lF 8)) {as : List zV} (hch : lchk false 128 230 as = true) (hv : as.map (zg ν s.heap.size) = [.int (xs 1), .int (xs 2)]) {f0 f1 : List zV} (g0 : lx1[0]? = some (.inl (7, f0))) (hL : L = 5) {H : Heap} {locs : List Loc} (hr : lwR s D cy ν lx1 H locs) {Ls : Array Slot} (hl : lv_has Ls 4 (lwl b s.heap.size lM (nI 0)))
    (kk : ∀ (H : Heap) (locs : List Loc) (h : zH), lwR s D cy ν h H locs → h.length ≤ 10000 → zsl h ≤ 3000000 → W p l e room_1 s m #[Value.ref b] below meth c H locs h.length (zsl h) (lw_Z below #[Value.ref b] s) (F0 m 1324 Ls [])) : W p l e room_1 s m #[Value.ref b] below meth c H locs lx1.length (zsl lx1) (lw_Z below #[Value.ref b] s) (F0 m 1052 Ls []) := by
  obtain ⟨hx, hb, hr0, hml, hown, hts, hX, hbl, hlocks, hgv⟩ := id C0
  obtain ⟨r, h1, h2, fs, e1, c1, e2, ht, z1, z2⟩ := lchkG_spec hch
  replace e1 : zexec lbd lF 8 128 ((4, ((0 : Nat) : Int)) :: as) lx1 = some (some r, h1) := e1
  obtain ⟨⟨mo1, mo2⟩, -⟩ := hc _ _ _ _ _ _ zq_X8_same e2
  have hn : as.length = 2 := by have := congrArg List.length hv; simpa using this
  have hl2 := (⟨lv_at hl 3 rfl, lv_at hl 0 rfl⟩ : Ls[0]? = some (.val (.ref b)) ∧ Ls[3]? = some (.val (.int (nI 0))))
  refine lv_aload_n hx hb dL_law_1052 rfl (lv_at hl 2 rfl) ?_
  refine lw_ld C0 hr (i := 0) (k := 1) (n := 1) (lv := []) hl2 rfl (by omega) (by omega) dL_law_1053 dL_law_1054 dL_law_1055 dL_law_1056 dL_law_1057 ?_
  refine lw_ld C0 hr (i := 0) (k := 2) (n := 2) (lv := []) hl2 rfl (by omega) (by omega) dL_law_1058 dL_law_1059 dL_law_1060 dL_law_1061 dL_law_1062 ?_
  refine W.eq (g2 := F0 m 1063 Ls ((as.map (zg ν s.heap.size)).reverse ++ .ref (s.heap.size + 0) :: [])) (by rw [hv]; rfl) ?_
  refine lw_callV (a := 0) (ci := 7) C0 hK hr hc zq_X7_same e1 (zpos_ok (ps := [981, 982, 983]) (by decide +kernel)) g0 (by decide +kernel) hn hl.1 (by decide) (by omega) (by omega) dL_law_1063 (fun H locs hr => ?_)
  refine lv_aload_n hx hb dL_law_1066 rfl (lv_at hl 1 rfl) ?_
  refine lw_ld C0 hr (i := 0) (k := 1) (n := 1) (lv := []) hl2 rfl (by omega) (by omega) dL_law_1067 dL_law_1068 dL_law_1069 dL_law_1070 dL_law_1071 ?_
  refine lw_ld C0 hr (i := 0) (k := 2) (n := 2) (lv := []) hl2 rfl (by omega) (by omega) dL_law_1072 dL_law_1073 dL_law_1074 dL_law_1075 dL_law_1076 ?_
  refine W.eq (g2 := F0 m 1077 Ls ((as.map (zg ν s.heap.size)).reverse ++ .ref (s.heap.size + lM) :: [zg ν s.heap.size r])) (by rw [hv]; rfl) ?_
  refine lw_callV (a := lM) (ci := 8) C0 hK hr hc zq_X8_same e2 (zpos_ok (ps := [1505, 1506, 1507]) (by decide +kernel)) c1 (by decide +kernel) hn hl.1 (by rw [List.map_cons, zg_cat]; rcases (lv_cat (zg ν s.heap.size r)) with hq | hq <;> rw [zg_cat] at hq <;> simp [hq]) (by omega) (by omega) dL_law_1077 (fun H locs hr => ?_)
  have hj : zg ν s.heap.size r = .int (zgI ν r) := zg_I ht
  refine W.eq (g2 := F0 m 1080 Ls [.int (zgI ν r), .int (zgI ν r)]) (by rw [← hj]; rfl) ?_
  refine lv_icmp_eq (tgt := 1324) hx hb dL_law_1080 (by decide) (fun _ => kk H locs h2 hr z1 z2) (fun hne => absurd rfl hne)
theorem lwc_maps (C0 : lw_At p s m meth c b L xs) (hK : va_K D vwCl (zty cy) s) (hc : zCO l D cy ν s.heap.size 8 (zexec lbd lF 8)) {as : List zV} (hch : lchk true 129 231 as = true) (hv : as.map (zg ν s.heap.size) = [.int (xs 1), .int (xs 2), .int (xs 3)]) {f0 f1 : List zV} (g0 : lx1[0]? = some (.inl (7, f0))) (hL : L = 5) {H : Heap} {locs : List Loc} (hr : lwR s D cy ν lx1 H locs) {Ls : Array Slot} (hl : lv_has Ls 4 (lwl b s.heap.size lM (nI 0)))
    (kk : ∀ (H : Heap) (locs : List Loc) (h : zH), lwR s D cy ν h H locs → h.length ≤ 10000 → zsl h ≤ 3000000 → W p l e room_1 s m #[Value.ref b] below meth c H locs h.length (zsl h) (lw_Z below #[Value.ref b] s) (F0 m 1324 Ls [])) : W p l e room_1 s m #[Value.ref b] below meth c H locs lx1.length (zsl lx1) (lw_Z below #[Value.ref b] s) (F0 m 1085 Ls []) := by
  obtain ⟨hx, hb, hr0, hml, hown, hts, hX, hbl, hlocks, hgv⟩ := id C0
  obtain ⟨r, h1, h2, fs, e1, c1, e2, ht, z1, z2⟩ := lchkG_spec hch
  replace e1 : zexec lbd lF 8 129 ((4, ((0 : Nat) : Int)) :: as) lx1 = some (some r, h1) := e1
  obtain ⟨⟨mo1, mo2⟩, -⟩ := hc _ _ _ _ _ _ zq_X8_maps e2
  have hn : as.length = 3 := by have := congrArg List.length hv; simpa using this
  have hl2 := (⟨lv_at hl 3 rfl, lv_at hl 0 rfl⟩ : Ls[0]? = some (.val (.ref b)) ∧ Ls[3]? = some (.val (.int (nI 0))))
  refine lv_aload_n hx hb dL_law_1085 rfl (lv_at hl 2 rfl) ?_
  refine lw_ld C0 hr (i := 0) (k := 1) (n := 1) (lv := []) hl2 rfl (by omega) (by omega) dL_law_1086 dL_law_1087 dL_law_1088 dL_law_1089 dL_law_1090 ?_
  refine lw_ld C0 hr (i := 0) (k := 2) (n := 2) (lv := []) hl2 rfl (by omega) (by omega) dL_law_1091 dL_law_1092 dL_law_1093 dL_law_1094 dL_law_1095 ?_
  refine lw_ld C0 hr (i := 0) (k := 3) (n := 3) (lv := []) hl2 rfl (by omega) (by omega) dL_law_1096 dL_law_1097 dL_law_1098 dL_law_1099 dL_law_1100 ?_
  refine W.eq (g2 := F0 m 1101 Ls ((as.map (zg ν s.heap.size)).reverse ++ .ref (s.heap.size + 0) :: [])) (by rw [hv]; rfl) ?_
  refine lw_callV (a := 0) (ci := 7) C0 hK hr hc zq_X7_maps e1 (zpos_ok (ps := [989, 990, 991]) (by decide +kernel)) g0 (by decide +kernel) hn hl.1 (by decide) (by omega) (by omega) dL_law_1101 (fun H locs hr => ?_)
  refine lv_aload_n hx hb dL_law_1104 rfl (lv_at hl 1 rfl) ?_
  refine lw_ld C0 hr (i := 0) (k := 1) (n := 1) (lv := []) hl2 rfl (by omega) (by omega) dL_law_1105 dL_law_1106 dL_law_1107 dL_law_1108 dL_law_1109 ?_
  refine lw_ld C0 hr (i := 0) (k := 2) (n := 2) (lv := []) hl2 rfl (by omega) (by omega) dL_law_1110 dL_law_1111 dL_law_1112 dL_law_1113 dL_law_1114 ?_
  refine lw_ld C0 hr (i := 0) (k := 3) (n := 3) (lv := []) hl2 rfl (by omega) (by omega) dL_law_1115 dL_law_1116 dL_law_1117 dL_law_1118 dL_law_1119 ?_
  refine W.eq (g2 := F0 m 1120 Ls ((as.map (zg ν s.heap.size)).reverse ++ .ref (s.heap.size + lM) :: [zg ν s.heap.size r])) (by rw [hv]; rfl) ?_
  refine lw_callV (a := lM) (ci := 8) C0 hK hr hc zq_X8_maps e2 (zpos_ok (ps := [1509, 1510, 1511]) (by decide +kernel)) c1 (by decide +kernel) hn hl.1 (by rw [List.map_cons, zg_cat]; rcases (lv_cat (zg ν s.heap.size r)) with hq | hq <;> rw [zg_cat] at hq <;> simp [hq]) (by omega) (by omega) dL_law_1120 (fun H locs hr => ?_)
  have hj : zg ν s.heap.size r = .long (zgJ ν r) := zg_J ht
  refine W.eq (g2 := F0 m 1123 Ls [.long (zgJ ν r), .long (zgJ ν r)]) (by rw [← hj]; rfl) ?_
  refine W.lcmp hx hb dL_law_1123 ?_
  refine lv_if_eq (tgt := 1324) hx hb dL_law_1124 (by decide) (fun _ => kk H locs h2 hr z1 z2) (fun hne => absurd (by simp [lg_cmp]) hne)
theorem lwc_row (C0 : lw_At p s m meth c b L xs) (hK : va_K D vwCl (zty cy) s) (hc : zCO l D cy ν s.heap.size 8 (zexec lbd lF 8)) {as : List zV} (hch : lchk false 130 232 as = true) (hv : as.map (zg ν s.heap.size) = [.long (((xs 1).toInt64 <<< ((32 : Int32).toInt64 &&& 63)) ||| ((xs 2).toInt64 &&& 4294967295))]) {f0 f1 : List zV} (g0 : lx1[0]? = some (.inl (7, f0))) (hL : L = 5) {H : Heap} {locs : List Loc} (hr : lwR s D cy ν lx1 H locs) {Ls : Array Slot} (hl : lv_has Ls 4 (lwl b s.heap.size lM (nI 0)))
    (kk : ∀ (H : Heap) (locs : List Loc) (h : zH), lwR s D cy ν h H locs → h.length ≤ 10000 → zsl h ≤ 3000000 → W p l e room_1 s m #[Value.ref b] below meth c H locs h.length (zsl h) (lw_Z below #[Value.ref b] s) (F0 m 1324 Ls [])) : W p l e room_1 s m #[Value.ref b] below meth c H locs lx1.length (zsl lx1) (lw_Z below #[Value.ref b] s) (F0 m 1129 Ls []) := by
  obtain ⟨hx, hb, hr0, hml, hown, hts, hX, hbl, hlocks, hgv⟩ := id C0
  obtain ⟨r, h1, h2, fs, e1, c1, e2, ht, z1, z2⟩ := lchkG_spec hch
  replace e1 : zexec lbd lF 8 130 ((4, ((0 : Nat) : Int)) :: as) lx1 = some (some r, h1) := e1
  obtain ⟨⟨mo1, mo2⟩, -⟩ := hc _ _ _ _ _ _ zq_X8_row e2
  have hn : as.length = 1 := by have := congrArg List.length hv; simpa using this
  have hl2 := (⟨lv_at hl 3 rfl, lv_at hl 0 rfl⟩ : Ls[0]? = some (.val (.ref b)) ∧ Ls[3]? = some (.val (.int (nI 0))))
  refine lv_aload_n hx hb dL_law_1129 rfl (lv_at hl 2 rfl) ?_
  refine lw_ld C0 hr (i := 0) (k := 1) (n := 1) (lv := []) hl2 rfl (by omega) (by omega) dL_law_1130 dL_law_1131 dL_law_1132 dL_law_1133 dL_law_1134 ?_
  refine lv_i2l hx hb dL_law_1135 rfl ?_
  refine lv_bipush (v := 32) hx hb dL_law_1136 (by decide) ?_
  refine lv_lshl hx hb dL_law_1138 rfl ?_
  refine lw_ld C0 hr (i := 0) (k := 2) (n := 2) (lv := []) hl2 rfl (by omega) (by omega) dL_law_1139 dL_law_1140 dL_law_1141 dL_law_1142 dL_law_1143 ?_
  refine lv_i2l hx hb dL_law_1144 rfl ?_
  refine lv_ldc2 (v := 4294967295) hx hb hown (hts _ (List.mem_of_getElem? (i := 1555) (by decide +kernel))) dL_law_1145 ?_
  refine lv_land hx hb dL_law_1148 ?_
  refine lv_lor hx hb dL_law_1149 ?_
  refine W.eq (g2 := F0 m 1150 Ls ((as.map (zg ν s.heap.size)).reverse ++ .ref (s.heap.size + 0) :: [])) (by rw [hv]; rfl) ?_
  refine lw_callV (a := 0) (ci := 7) C0 hK hr hc zq_X7_row e1 (zpos_ok (ps := [1009, 1010, 1011]) (by decide +kernel)) g0 (by decide +kernel) hn hl.1 (by decide) (by omega) (by omega) dL_law_1150 (fun H locs hr => ?_)
  refine lv_aload_n hx hb dL_law_1153 rfl (lv_at hl 1 rfl) ?_
  refine lw_ld C0 hr (i := 0) (k := 1) (n := 1) (lv := []) hl2 rfl (by omega) (by omega) dL_law_1154 dL_law_1155 dL_law_1156 dL_law_1157 dL_law_1158 ?_
  refine lv_i2l hx hb dL_law_1159 rfl ?_
  refine lv_bipush (v := 32) hx hb dL_law_1160 (by decide) ?_
  refine lv_lshl hx hb dL_law_1162 rfl ?_
  refine lw_ld C0 hr (i := 0) (k := 2) (n := 2) (lv := []) hl2 rfl (by omega) (by omega) dL_law_1163 dL_law_1164 dL_law_1165 dL_law_1166 dL_law_1167 ?_
  refine lv_i2l hx hb dL_law_1168 rfl ?_
  refine lv_ldc2 (v := 4294967295) hx hb hown (hts _ (List.mem_of_getElem? (i := 1555) (by decide +kernel))) dL_law_1169 ?_
  refine lv_land hx hb dL_law_1172 ?_
  refine lv_lor hx hb dL_law_1173 ?_
  refine W.eq (g2 := F0 m 1174 Ls ((as.map (zg ν s.heap.size)).reverse ++ .ref (s.heap.size + lM) :: [zg ν s.heap.size r])) (by rw [hv]; rfl) ?_
  refine lw_callV (a := lM) (ci := 8) C0 hK hr hc zq_X8_row e2 (zpos_ok (ps := [1513, 1514, 1515]) (by decide +kernel)) c1 (by decide +kernel) hn hl.1 (by rw [List.map_cons, zg_cat]; rcases (lv_cat (zg ν s.heap.size r)) with hq | hq <;> rw [zg_cat] at hq <;> simp [hq]) (by omega) (by omega) dL_law_1174 (fun H locs hr => ?_)
  have hj : zg ν s.heap.size r = .int (zgI ν r) := zg_I ht
  refine W.eq (g2 := F0 m 1177 Ls [.int (zgI ν r), .int (zgI ν r)]) (by rw [← hj]; rfl) ?_
  refine lv_icmp_eq (tgt := 1324) hx hb dL_law_1177 (by decide) (fun _ => kk H locs h2 hr z1 z2) (fun hne => absurd rfl hne)
theorem lwc_check (C0 : lw_At p s m meth c b L xs) (hK : va_K D vwCl (zty cy) s) (hc : zCO l D cy ν s.heap.size 8 (zexec lbd lF 8)) {as : List zV} (hch : lchk false 131 233 as = true) (hv : as.map (zg ν s.heap.size) = [.int (xs 1)]) {f0 f1 : List zV} (g0 : lx1[0]? = some (.inl (7, f0))) (hL : L = 5) {H : Heap} {locs : List Loc} (hr : lwR s D cy ν lx1 H locs) {Ls : Array Slot} (hl : lv_has Ls 4 (lwl b s.heap.size lM (nI 0)))
    (kk : ∀ (H : Heap) (locs : List Loc) (h : zH), lwR s D cy ν h H locs → h.length ≤ 10000 → zsl h ≤ 3000000 → W p l e room_1 s m #[Value.ref b] below meth c H locs h.length (zsl h) (lw_Z below #[Value.ref b] s) (F0 m 1324 Ls [])) : W p l e room_1 s m #[Value.ref b] below meth c H locs lx1.length (zsl lx1) (lw_Z below #[Value.ref b] s) (F0 m 1182 Ls []) := by
  obtain ⟨hx, hb, hr0, hml, hown, hts, hX, hbl, hlocks, hgv⟩ := id C0
  obtain ⟨r, h1, h2, fs, e1, c1, e2, ht, z1, z2⟩ := lchkG_spec hch
  replace e1 : zexec lbd lF 8 131 ((4, ((0 : Nat) : Int)) :: as) lx1 = some (some r, h1) := e1
  obtain ⟨⟨mo1, mo2⟩, -⟩ := hc _ _ _ _ _ _ zq_X8_check e2
  have hn : as.length = 1 := by have := congrArg List.length hv; simpa using this
  have hl2 := (⟨lv_at hl 3 rfl, lv_at hl 0 rfl⟩ : Ls[0]? = some (.val (.ref b)) ∧ Ls[3]? = some (.val (.int (nI 0))))
  refine lv_aload_n hx hb dL_law_1182 rfl (lv_at hl 2 rfl) ?_
  refine lw_ld C0 hr (i := 0) (k := 1) (n := 1) (lv := []) hl2 rfl (by omega) (by omega) dL_law_1183 dL_law_1184 dL_law_1185 dL_law_1186 dL_law_1187 ?_
  refine W.eq (g2 := F0 m 1188 Ls ((as.map (zg ν s.heap.size)).reverse ++ .ref (s.heap.size + 0) :: [])) (by rw [hv]; rfl) ?_
  refine lw_callV (a := 0) (ci := 7) C0 hK hr hc zq_X7_check e1 (zpos_ok (ps := [1015, 1016, 1017]) (by decide +kernel)) g0 (by decide +kernel) hn hl.1 (by decide) (by omega) (by omega) dL_law_1188 (fun H locs hr => ?_)
  refine lv_aload_n hx hb dL_law_1191 rfl (lv_at hl 1 rfl) ?_
  refine lw_ld C0 hr (i := 0) (k := 1) (n := 1) (lv := []) hl2 rfl (by omega) (by omega) dL_law_1192 dL_law_1193 dL_law_1194 dL_law_1195 dL_law_1196 ?_
  refine W.eq (g2 := F0 m 1197 Ls ((as.map (zg ν s.heap.size)).reverse ++ .ref (s.heap.size + lM) :: [zg ν s.heap.size r])) (by rw [hv]; rfl) ?_
  refine lw_callV (a := lM) (ci := 8) C0 hK hr hc zq_X8_check e2 (zpos_ok (ps := [1519, 1520, 1521]) (by decide +kernel)) c1 (by decide +kernel) hn hl.1 (by rw [List.map_cons, zg_cat]; rcases (lv_cat (zg ν s.heap.size r)) with hq | hq <;> rw [zg_cat] at hq <;> simp [hq]) (by omega) (by omega) dL_law_1197 (fun H locs hr => ?_)
  have hj : zg ν s.heap.size r = .int (zgI ν r) := zg_I ht
  refine W.eq (g2 := F0 m 1200 Ls [.int (zgI ν r), .int (zgI ν r)]) (by rw [← hj]; rfl) ?_
  refine lv_icmp_eq (tgt := 1324) hx hb dL_law_1200 (by decide) (fun _ => kk H locs h2 hr z1 z2) (fun hne => absurd rfl hne)
theorem lwc_misfit (C0 : lw_At p s m meth c b L xs) (hK : va_K D vwCl (zty cy) s) (hc : zCO l D cy ν s.heap.size 8 (zexec lbd lF 8)) {as : List zV} (hch : lchk false 132 234 as = true) (hv : as.map (zg ν s.heap.size) = []) {f0 f1 : List zV} (g0 : lx1[0]? = some (.inl (7, f0))) (hL : L = 5) {H : Heap} {locs : List Loc} (hr : lwR s D cy ν lx1 H locs) {Ls : Array Slot} (hl : lv_has Ls 4 (lwl b s.heap.size lM (nI 0)))
    (kk : ∀ (H : Heap) (locs : List Loc) (h : zH), lwR s D cy ν h H locs → h.length ≤ 10000 → zsl h ≤ 3000000 → W p l e room_1 s m #[Value.ref b] below meth c H locs h.length (zsl h) (lw_Z below #[Value.ref b] s) (F0 m 1324 Ls [])) : W p l e room_1 s m #[Value.ref b] below meth c H locs lx1.length (zsl lx1) (lw_Z below #[Value.ref b] s) (F0 m 1205 Ls []) := by
  obtain ⟨hx, hb, hr0, hml, hown, hts, hX, hbl, hlocks, hgv⟩ := id C0
  obtain ⟨r, h1, h2, fs, e1, c1, e2, ht, z1, z2⟩ := lchkG_spec hch
  replace e1 : zexec lbd lF 8 132 ((4, ((0 : Nat) : Int)) :: as) lx1 = some (some r, h1) := e1
  obtain ⟨⟨mo1, mo2⟩, -⟩ := hc _ _ _ _ _ _ zq_X8_misfit e2
  have hn : as.length = 0 := by have := congrArg List.length hv; simpa using this
  have hl2 := (⟨lv_at hl 3 rfl, lv_at hl 0 rfl⟩ : Ls[0]? = some (.val (.ref b)) ∧ Ls[3]? = some (.val (.int (nI 0))))
  refine lv_aload_n hx hb dL_law_1205 rfl (lv_at hl 2 rfl) ?_
  refine W.eq (g2 := F0 m 1206 Ls ((as.map (zg ν s.heap.size)).reverse ++ .ref (s.heap.size + 0) :: [])) (by rw [hv]; rfl) ?_
  refine lw_callV (a := 0) (ci := 7) C0 hK hr hc zq_X7_misfit e1 (zpos_ok (ps := [1028, 1029, 1030]) (by decide +kernel)) g0 (by decide +kernel) hn hl.1 (by decide) (by omega) (by omega) dL_law_1206 (fun H locs hr => ?_)
  refine lv_aload_n hx hb dL_law_1209 rfl (lv_at hl 1 rfl) ?_
  refine W.eq (g2 := F0 m 1210 Ls ((as.map (zg ν s.heap.size)).reverse ++ .ref (s.heap.size + lM) :: [zg ν s.heap.size r])) (by rw [hv]; rfl) ?_
  refine lw_callV (a := lM) (ci := 8) C0 hK hr hc zq_X8_misfit e2 (zpos_ok (ps := [1523, 1524, 1525]) (by decide +kernel)) c1 (by decide +kernel) hn hl.1 (by rw [List.map_cons, zg_cat]; rcases (lv_cat (zg ν s.heap.size r)) with hq | hq <;> rw [zg_cat] at hq <;> simp [hq]) (by omega) (by omega) dL_law_1210 (fun H locs hr => ?_)
  have hj : zg ν s.heap.size r = .int (zgI ν r) := zg_I ht
  refine W.eq (g2 := F0 m 1213 Ls [.int (zgI ν r), .int (zgI ν r)]) (by rw [← hj]; rfl) ?_
  refine lv_icmp_eq (tgt := 1324) hx hb dL_law_1213 (by decide) (fun _ => kk H locs h2 hr z1 z2) (fun hne => absurd rfl hne)
theorem lwc_chance (C0 : lw_At p s m meth c b L xs) (hK : va_K D vwCl (zty cy) s) (hc : zCO l D cy ν s.heap.size 8 (zexec lbd lF 8)) {as : List zV} (hch : lchk true 133 237 as = true) (hv : as.map (zg ν s.heap.size) = [.int (xs 1), .int (xs 2)]) {f0 f1 : List zV} (g0 : lx1[0]? = some (.inl (7, f0))) (hL : L = 5) {H : Heap} {locs : List Loc} (hr : lwR s D cy ν lx1 H locs) {Ls : Array Slot} (hl : lv_has Ls 4 (lwl b s.heap.size lM (nI 0)))
    (kk : ∀ (H : Heap) (locs : List Loc) (h : zH), lwR s D cy ν h H locs → h.length ≤ 10000 → zsl h ≤ 3000000 → W p l e room_1 s m #[Value.ref b] below meth c H locs h.length (zsl h) (lw_Z below #[Value.ref b] s) (F0 m 1324 Ls [])) : W p l e room_1 s m #[Value.ref b] below meth c H locs lx1.length (zsl lx1) (lw_Z below #[Value.ref b] s) (F0 m 1218 Ls []) := by
  obtain ⟨hx, hb, hr0, hml, hown, hts, hX, hbl, hlocks, hgv⟩ := id C0
  obtain ⟨r, h1, h2, fs, e1, c1, e2, ht, z1, z2⟩ := lchkG_spec hch
  replace e1 : zexec lbd lF 8 133 ((4, ((0 : Nat) : Int)) :: as) lx1 = some (some r, h1) := e1
  obtain ⟨⟨mo1, mo2⟩, -⟩ := hc _ _ _ _ _ _ zq_X8_chance e2
  have hn : as.length = 2 := by have := congrArg List.length hv; simpa using this
  have hl2 := (⟨lv_at hl 3 rfl, lv_at hl 0 rfl⟩ : Ls[0]? = some (.val (.ref b)) ∧ Ls[3]? = some (.val (.int (nI 0))))
  refine lv_aload_n hx hb dL_law_1218 rfl (lv_at hl 2 rfl) ?_
  refine lw_ld C0 hr (i := 0) (k := 1) (n := 1) (lv := []) hl2 rfl (by omega) (by omega) dL_law_1219 dL_law_1220 dL_law_1221 dL_law_1222 dL_law_1223 ?_
  refine lw_ld C0 hr (i := 0) (k := 2) (n := 2) (lv := []) hl2 rfl (by omega) (by omega) dL_law_1224 dL_law_1225 dL_law_1226 dL_law_1227 dL_law_1228 ?_
  refine W.eq (g2 := F0 m 1229 Ls ((as.map (zg ν s.heap.size)).reverse ++ .ref (s.heap.size + 0) :: [])) (by rw [hv]; rfl) ?_
  refine lw_callV (a := 0) (ci := 7) C0 hK hr hc zq_X7_chance e1 (zpos_ok (ps := [1032, 1033, 1034]) (by decide +kernel)) g0 (by decide +kernel) hn hl.1 (by decide) (by omega) (by omega) dL_law_1229 (fun H locs hr => ?_)
  refine lv_aload_n hx hb dL_law_1232 rfl (lv_at hl 1 rfl) ?_
  refine lw_ld C0 hr (i := 0) (k := 1) (n := 1) (lv := []) hl2 rfl (by omega) (by omega) dL_law_1233 dL_law_1234 dL_law_1235 dL_law_1236 dL_law_1237 ?_
  refine lw_ld C0 hr (i := 0) (k := 2) (n := 2) (lv := []) hl2 rfl (by omega) (by omega) dL_law_1238 dL_law_1239 dL_law_1240 dL_law_1241 dL_law_1242 ?_
  refine W.eq (g2 := F0 m 1243 Ls ((as.map (zg ν s.heap.size)).reverse ++ .ref (s.heap.size + lM) :: [zg ν s.heap.size r])) (by rw [hv]; rfl) ?_
  refine lw_callV (a := lM) (ci := 8) C0 hK hr hc zq_X8_chance e2 (zpos_ok (ps := [1527, 1528, 1529]) (by decide +kernel)) c1 (by decide +kernel) hn hl.1 (by rw [List.map_cons, zg_cat]; rcases (lv_cat (zg ν s.heap.size r)) with hq | hq <;> rw [zg_cat] at hq <;> simp [hq]) (by omega) (by omega) dL_law_1243 (fun H locs hr => ?_)
  have hj : zg ν s.heap.size r = .long (zgJ ν r) := zg_J ht
  refine W.eq (g2 := F0 m 1246 Ls [.long (zgJ ν r), .long (zgJ ν r)]) (by rw [← hj]; rfl) ?_
  refine W.lcmp hx hb dL_law_1246 ?_
  refine lv_if_eq (tgt := 1324) hx hb dL_law_1247 (by decide) (fun _ => kk H locs h2 hr z1 z2) (fun hne => absurd (by simp [lg_cmp]) hne)
theorem lwc_rank (C0 : lw_At p s m meth c b L xs) (hK : va_K D vwCl (zty cy) s) (hc : zCO l D cy ν s.heap.size 8 (zexec lbd lF 8)) {as : List zV} (hch : lchk false 134 238 as = true) (hv : as.map (zg ν s.heap.size) = []) {f0 f1 : List zV} (g0 : lx1[0]? = some (.inl (7, f0))) (hL : L = 5) {H : Heap} {locs : List Loc} (hr : lwR s D cy ν lx1 H locs) {Ls : Array Slot} (hl : lv_has Ls 4 (lwl b s.heap.size lM (nI 0)))
    (kk : ∀ (H : Heap) (locs : List Loc) (h : zH), lwR s D cy ν h H locs → h.length ≤ 10000 → zsl h ≤ 3000000 → W p l e room_1 s m #[Value.ref b] below meth c H locs h.length (zsl h) (lw_Z below #[Value.ref b] s) (F0 m 1324 Ls [])) : W p l e room_1 s m #[Value.ref b] below meth c H locs lx1.length (zsl lx1) (lw_Z below #[Value.ref b] s) (F0 m 1252 Ls []) := by
  obtain ⟨hx, hb, hr0, hml, hown, hts, hX, hbl, hlocks, hgv⟩ := id C0
  obtain ⟨r, h1, h2, fs, e1, c1, e2, ht, z1, z2⟩ := lchkG_spec hch
  replace e1 : zexec lbd lF 8 134 ((4, ((0 : Nat) : Int)) :: as) lx1 = some (some r, h1) := e1
  obtain ⟨⟨mo1, mo2⟩, -⟩ := hc _ _ _ _ _ _ zq_X8_rank e2
  have hn : as.length = 0 := by have := congrArg List.length hv; simpa using this
  have hl2 := (⟨lv_at hl 3 rfl, lv_at hl 0 rfl⟩ : Ls[0]? = some (.val (.ref b)) ∧ Ls[3]? = some (.val (.int (nI 0))))
  refine lv_aload_n hx hb dL_law_1252 rfl (lv_at hl 2 rfl) ?_
  refine W.eq (g2 := F0 m 1253 Ls ((as.map (zg ν s.heap.size)).reverse ++ .ref (s.heap.size + 0) :: [])) (by rw [hv]; rfl) ?_
  refine lw_callV (a := 0) (ci := 7) C0 hK hr hc zq_X7_rank e1 (zpos_ok (ps := [1047, 1048, 1049]) (by decide +kernel)) g0 (by decide +kernel) hn hl.1 (by decide) (by omega) (by omega) dL_law_1253 (fun H locs hr => ?_)
  refine lv_aload_n hx hb dL_law_1256 rfl (lv_at hl 1 rfl) ?_
  refine W.eq (g2 := F0 m 1257 Ls ((as.map (zg ν s.heap.size)).reverse ++ .ref (s.heap.size + lM) :: [zg ν s.heap.size r])) (by rw [hv]; rfl) ?_
  refine lw_callV (a := lM) (ci := 8) C0 hK hr hc zq_X8_rank e2 (zpos_ok (ps := [1539, 1540, 1541]) (by decide +kernel)) c1 (by decide +kernel) hn hl.1 (by rw [List.map_cons, zg_cat]; rcases (lv_cat (zg ν s.heap.size r)) with hq | hq <;> rw [zg_cat] at hq <;> simp [hq]) (by omega) (by omega) dL_law_1257 (fun H locs hr => ?_)
  have hj : zg ν s.heap.size r = .int (zgI ν r) := zg_I ht
  refine W.eq (g2 := F0 m 1260 Ls [.int (zgI ν r), .int (zgI ν r)]) (by rw [← hj]; rfl) ?_
  refine lv_icmp_eq (tgt := 1324) hx hb dL_law_1260 (by decide) (fun _ => kk H locs h2 hr z1 z2) (fun hne => absurd rfl hne)
theorem lwc_image (C0 : lw_At p s m meth c b L xs) (hK : va_K D vwCl (zty cy) s) (hc : zCO l D cy ν s.heap.size 8 (zexec lbd lF 8)) {as : List zV} (hch : lchk false 135 239 as = true) (hv : as.map (zg ν s.heap.size) = [.int (xs 1)]) {f0 f1 : List zV} (g0 : lx1[0]? = some (.inl (7, f0))) (hL : L = 5) {H : Heap} {locs : List Loc} (hr : lwR s D cy ν lx1 H locs) {Ls : Array Slot} (hl : lv_has Ls 4 (lwl b s.heap.size lM (nI 0)))
    (kk : ∀ (H : Heap) (locs : List Loc) (h : zH), lwR s D cy ν h H locs → h.length ≤ 10000 → zsl h ≤ 3000000 → W p l e room_1 s m #[Value.ref b] below meth c H locs h.length (zsl h) (lw_Z below #[Value.ref b] s) (F0 m 1324 Ls [])) : W p l e room_1 s m #[Value.ref b] below meth c H locs lx1.length (zsl lx1) (lw_Z below #[Value.ref b] s) (F0 m 1265 Ls []) := by
  obtain ⟨hx, hb, hr0, hml, hown, hts, hX, hbl, hlocks, hgv⟩ := id C0
  obtain ⟨r, h1, h2, fs, e1, c1, e2, ht, z1, z2⟩ := lchkG_spec hch
  replace e1 : zexec lbd lF 8 135 ((4, ((0 : Nat) : Int)) :: as) lx1 = some (some r, h1) := e1
  obtain ⟨⟨mo1, mo2⟩, -⟩ := hc _ _ _ _ _ _ zq_X8_image e2
  have hn : as.length = 1 := by have := congrArg List.length hv; simpa using this
  have hl2 := (⟨lv_at hl 3 rfl, lv_at hl 0 rfl⟩ : Ls[0]? = some (.val (.ref b)) ∧ Ls[3]? = some (.val (.int (nI 0))))
  refine lv_aload_n hx hb dL_law_1265 rfl (lv_at hl 2 rfl) ?_
  refine lw_ld C0 hr (i := 0) (k := 1) (n := 1) (lv := []) hl2 rfl (by omega) (by omega) dL_law_1266 dL_law_1267 dL_law_1268 dL_law_1269 dL_law_1270 ?_
  refine W.eq (g2 := F0 m 1271 Ls ((as.map (zg ν s.heap.size)).reverse ++ .ref (s.heap.size + 0) :: [])) (by rw [hv]; rfl) ?_
  refine lw_callV (a := 0) (ci := 7) C0 hK hr hc zq_X7_image e1 (zpos_ok (ps := [1051, 1052, 1053]) (by decide +kernel)) g0 (by decide +kernel) hn hl.1 (by decide) (by omega) (by omega) dL_law_1271 (fun H locs hr => ?_)
  refine lv_aload_n hx hb dL_law_1274 rfl (lv_at hl 1 rfl) ?_
  refine lw_ld C0 hr (i := 0) (k := 1) (n := 1) (lv := []) hl2 rfl (by omega) (by omega) dL_law_1275 dL_law_1276 dL_law_1277 dL_law_1278 dL_law_1279 ?_
  refine W.eq (g2 := F0 m 1280 Ls ((as.map (zg ν s.heap.size)).reverse ++ .ref (s.heap.size + lM) :: [zg ν s.heap.size r])) (by rw [hv]; rfl) ?_
  refine lw_callV (a := lM) (ci := 8) C0 hK hr hc zq_X8_image e2 (zpos_ok (ps := [1543, 1544, 1545]) (by decide +kernel)) c1 (by decide +kernel) hn hl.1 (by rw [List.map_cons, zg_cat]; rcases (lv_cat (zg ν s.heap.size r)) with hq | hq <;> rw [zg_cat] at hq <;> simp [hq]) (by omega) (by omega) dL_law_1280 (fun H locs hr => ?_)
  have hj : zg ν s.heap.size r = .int (zgI ν r) := zg_I ht
  refine W.eq (g2 := F0 m 1283 Ls [.int (zgI ν r), .int (zgI ν r)]) (by rw [← hj]; rfl) ?_
  refine lv_icmp_eq (tgt := 1324) hx hb dL_law_1283 (by decide) (fun _ => kk H locs h2 hr z1 z2) (fun hne => absurd rfl hne)
theorem lwc_back (C0 : lw_At p s m meth c b L xs) (hK : va_K D vwCl (zty cy) s) (hc : zCO l D cy ν s.heap.size 8 (zexec lbd lF 8)) {as : List zV} (hch : lchk false 136 240 as = true) (hv : as.map (zg ν s.heap.size) = [.int (xs 1)]) {f0 f1 : List zV} (g0 : lx1[0]? = some (.inl (7, f0))) (hL : L = 5) {H : Heap} {locs : List Loc} (hr : lwR s D cy ν lx1 H locs) {Ls : Array Slot} (hl : lv_has Ls 4 (lwl b s.heap.size lM (nI 0)))
    (kk : ∀ (H : Heap) (locs : List Loc) (h : zH), lwR s D cy ν h H locs → h.length ≤ 10000 → zsl h ≤ 3000000 → W p l e room_1 s m #[Value.ref b] below meth c H locs h.length (zsl h) (lw_Z below #[Value.ref b] s) (F0 m 1324 Ls [])) : W p l e room_1 s m #[Value.ref b] below meth c H locs lx1.length (zsl lx1) (lw_Z below #[Value.ref b] s) (F0 m 1288 Ls []) := by
  obtain ⟨hx, hb, hr0, hml, hown, hts, hX, hbl, hlocks, hgv⟩ := id C0
  obtain ⟨r, h1, h2, fs, e1, c1, e2, ht, z1, z2⟩ := lchkG_spec hch
  replace e1 : zexec lbd lF 8 136 ((4, ((0 : Nat) : Int)) :: as) lx1 = some (some r, h1) := e1
  obtain ⟨⟨mo1, mo2⟩, -⟩ := hc _ _ _ _ _ _ zq_X8_back e2
  have hn : as.length = 1 := by have := congrArg List.length hv; simpa using this
  have hl2 := (⟨lv_at hl 3 rfl, lv_at hl 0 rfl⟩ : Ls[0]? = some (.val (.ref b)) ∧ Ls[3]? = some (.val (.int (nI 0))))
  refine lv_aload_n hx hb dL_law_1288 rfl (lv_at hl 2 rfl) ?_
  refine lw_ld C0 hr (i := 0) (k := 1) (n := 1) (lv := []) hl2 rfl (by omega) (by omega) dL_law_1289 dL_law_1290 dL_law_1291 dL_law_1292 dL_law_1293 ?_
  refine W.eq (g2 := F0 m 1294 Ls ((as.map (zg ν s.heap.size)).reverse ++ .ref (s.heap.size + 0) :: [])) (by rw [hv]; rfl) ?_
  refine lw_callV (a := 0) (ci := 7) C0 hK hr hc zq_X7_back e1 (zpos_ok (ps := [1059, 1060, 1061]) (by decide +kernel)) g0 (by decide +kernel) hn hl.1 (by decide) (by omega) (by omega) dL_law_1294 (fun H locs hr => ?_)
  refine lv_aload_n hx hb dL_law_1297 rfl (lv_at hl 1 rfl) ?_
  refine lw_ld C0 hr (i := 0) (k := 1) (n := 1) (lv := []) hl2 rfl (by omega) (by omega) dL_law_1298 dL_law_1299 dL_law_1300 dL_law_1301 dL_law_1302 ?_
  refine W.eq (g2 := F0 m 1303 Ls ((as.map (zg ν s.heap.size)).reverse ++ .ref (s.heap.size + lM) :: [zg ν s.heap.size r])) (by rw [hv]; rfl) ?_
  refine lw_callV (a := lM) (ci := 8) C0 hK hr hc zq_X8_back e2 (zpos_ok (ps := [1547, 1548, 1549]) (by decide +kernel)) c1 (by decide +kernel) hn hl.1 (by rw [List.map_cons, zg_cat]; rcases (lv_cat (zg ν s.heap.size r)) with hq | hq <;> rw [zg_cat] at hq <;> simp [hq]) (by omega) (by omega) dL_law_1303 (fun H locs hr => ?_)
  have hj : zg ν s.heap.size r = .int (zgI ν r) := zg_I ht
  refine W.eq (g2 := F0 m 1306 Ls [.int (zgI ν r), .int (zgI ν r)]) (by rw [← hj]; rfl) ?_
  refine lv_icmp_eq (tgt := 1324) hx hb dL_law_1306 (by decide) (fun _ => kk H locs h2 hr z1 z2) (fun hne => absurd rfl hne)
theorem lwc_status (C0 : lw_At p s m meth c b L xs) (hK : va_K D vwCl (zty cy) s) (hc : zCO l D cy ν s.heap.size 8 (zexec lbd lF 8)) {as : List zV} (hch : lchk false 137 241 as = true) (hv : as.map (zg ν s.heap.size) = []) {f0 f1 : List zV} (g0 : lx1[0]? = some (.inl (7, f0))) (hL : L = 5) {H : Heap} {locs : List Loc} (hr : lwR s D cy ν lx1 H locs) {Ls : Array Slot} (hl : lv_has Ls 4 (lwl b s.heap.size lM (nI 0)))
    (kk : ∀ (H : Heap) (locs : List Loc) (h : zH), lwR s D cy ν h H locs → h.length ≤ 10000 → zsl h ≤ 3000000 → W p l e room_1 s m #[Value.ref b] below meth c H locs h.length (zsl h) (lw_Z below #[Value.ref b] s) (F0 m 1324 Ls [])) : W p l e room_1 s m #[Value.ref b] below meth c H locs lx1.length (zsl lx1) (lw_Z below #[Value.ref b] s) (F0 m 1311 Ls []) := by
  obtain ⟨hx, hb, hr0, hml, hown, hts, hX, hbl, hlocks, hgv⟩ := id C0
  obtain ⟨r, h1, h2, fs, e1, c1, e2, ht, z1, z2⟩ := lchkG_spec hch
  replace e1 : zexec lbd lF 8 137 ((4, ((0 : Nat) : Int)) :: as) lx1 = some (some r, h1) := e1
  obtain ⟨⟨mo1, mo2⟩, -⟩ := hc _ _ _ _ _ _ zq_X8_status e2
  have hn : as.length = 0 := by have := congrArg List.length hv; simpa using this
  have hl2 := (⟨lv_at hl 3 rfl, lv_at hl 0 rfl⟩ : Ls[0]? = some (.val (.ref b)) ∧ Ls[3]? = some (.val (.int (nI 0))))
  refine lv_aload_n hx hb dL_law_1311 rfl (lv_at hl 2 rfl) ?_
  refine W.eq (g2 := F0 m 1312 Ls ((as.map (zg ν s.heap.size)).reverse ++ .ref (s.heap.size + 0) :: [])) (by rw [hv]; rfl) ?_
  refine lw_callV (a := 0) (ci := 7) C0 hK hr hc zq_X7_status e1 (zpos_ok (ps := [1063, 1064, 1065]) (by decide +kernel)) g0 (by decide +kernel) hn hl.1 (by decide) (by omega) (by omega) dL_law_1312 (fun H locs hr => ?_)
  refine lv_aload_n hx hb dL_law_1315 rfl (lv_at hl 1 rfl) ?_
  refine W.eq (g2 := F0 m 1316 Ls ((as.map (zg ν s.heap.size)).reverse ++ .ref (s.heap.size + lM) :: [zg ν s.heap.size r])) (by rw [hv]; rfl) ?_
  refine lw_callV (a := lM) (ci := 8) C0 hK hr hc zq_X8_status e2 (zpos_ok (ps := [1551, 1552, 1553]) (by decide +kernel)) c1 (by decide +kernel) hn hl.1 (by rw [List.map_cons, zg_cat]; rcases (lv_cat (zg ν s.heap.size r)) with hq | hq <;> rw [zg_cat] at hq <;> simp [hq]) (by omega) (by omega) dL_law_1316 (fun H locs hr => ?_)
  have hj : zg ν s.heap.size r = .int (zgI ν r) := zg_I ht
  refine W.eq (g2 := F0 m 1319 Ls [.int (zgI ν r), .int (zgI ν r)]) (by rw [← hj]; rfl) ?_
  refine lv_icmp_eq (tgt := 1324) hx hb dL_law_1319 (by decide) (fun _ => kk H locs h2 hr z1 z2) (fun hne => absurd rfl hne)
end LC
