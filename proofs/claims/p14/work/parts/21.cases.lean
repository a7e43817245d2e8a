/-! the law's cases, by program (wip/whole/gen_law2.py) -/
section LWC
variable {p : Program} {l : Launch} {e : Env} {s : State} {m : MethodId} {below : List Frame} {meth : Method} {c : Code} {b L : Nat} {xs : Nat → Int32} {D : va_G} {ct : Nat → ClassId} {H : Heap} {locs : List Loc} {ls : Array Slot} {ws : va_W} {M : List rEnt}
theorem lwc_0 (F : lwF p s m meth c b L xs D ct) (hM : lwM D ct s M ws H locs) {ax am kx km t : Nat} (hl : lwL ls b ax am (nI t)) (hL : L < 2 ^ 31) (ht : t + 3 < L) (hax : (rAd ws)[kx]? = some ax) (ham : (rAd ws)[km]? = some am) {M2 : List rEnt} (hgo : lwGoU kx km 71 126 [.inl (xs (t + 1))] M M2)
    (kk : ∀ (ws2 : va_W) (H2 : Heap) (locs2 : List Loc), lwM D ct s M2 ws2 H2 locs2 → rAd ws <+: rAd ws2 → lwW p l e s m below meth c b H2 locs2 770 ls []) : lwW p l e s m below meth c b H locs 152 ls [] := by
  obtain ⟨N, d, r, r2, M1, hd18, hr1, hr2, ⟨⟨fx, hfx⟩, -⟩, ⟨-, ⟨fm, hfm⟩⟩⟩ := hgo
  have hx := F.1
  have hb := F.2.1
  refine lv_aload_n hx hb dL_152 rfl (lv_at hl 1 rfl) ?_
  refine lw_arg (j := 1) F hM hl hL rfl (by omega) dL_153 dL_154 dL_155 dL_156 dL_157 ?_
  refine lw_callV (y := 71) (own := 8) (nm := ⟨"GoalsInAQueue", "letter", "(I)I"⟩) (rest := []) (av := [.int (xs (t + 1))]) F hM hl.1 rfl hr1 hd18 hfx hax (by rfl) (rEq_mem (i := 435) (by decide +kernel) rfl) (rEq_mem (i := 437) (by decide +kernel) rfl) (Nat.zero_le _) dL_158 rfl (fun w ws1 H1 locs1 hw hM1 hp1 => ?_)
  have ham1 : (rAd ws1)[km]? = some am := by
    obtain ⟨z, hz⟩ := hp1
    rw [← hz, List.getElem?_append_left (List.getElem?_eq_some_iff.mp ham).1]
    exact ham
  cases hw
  refine lv_pop hx hb dL_161 rfl ?_
  refine lv_aload_n hx hb dL_162 rfl (lv_at hl 2 rfl) ?_
  refine lw_arg (j := 1) F hM1 hl hL rfl (by omega) dL_163 dL_164 dL_165 dL_166 dL_167 ?_
  refine lw_callV (y := 126) (own := 9) (nm := ⟨"GoalsInAQueueModel", "letter", "(I)I"⟩) (rest := []) (av := [.int (xs (t + 1))]) F hM1 hl.1 rfl hr2 hd18 hfm ham1 (by rfl) (rEq_mem (i := 1096) (by decide +kernel) rfl) (rEq_mem (i := 1098) (by decide +kernel) rfl) (Nat.zero_le _) dL_168 rfl (fun w2 ws2 H2 locs2 hw2 hM2 hp2 => ?_)
  have hkk := kk ws2 H2 locs2 hM2 (hp1.trans hp2)
  cases hw2
  refine lv_pop hx hb dL_171 rfl ?_
  exact lv_goto (tgt := 770) hx hb dL_172 (by decide) hkk
theorem lwc_1 (F : lwF p s m meth c b L xs D ct) (hM : lwM D ct s M ws H locs) {ax am kx km t : Nat} (hl : lwL ls b ax am (nI t)) (hL : L < 2 ^ 31) (ht : t + 3 < L) (hax : (rAd ws)[kx]? = some ax) (ham : (rAd ws)[km]? = some am) {M2 : List rEnt} (hgo : lwGoU kx km 73 129 [] M M2)
    (kk : ∀ (ws2 : va_W) (H2 : Heap) (locs2 : List Loc), lwM D ct s M2 ws2 H2 locs2 → rAd ws <+: rAd ws2 → lwW p l e s m below meth c b H2 locs2 770 ls []) : lwW p l e s m below meth c b H locs 175 ls [] := by
  obtain ⟨N, d, r, r2, M1, hd18, hr1, hr2, ⟨⟨fx, hfx⟩, -⟩, ⟨-, ⟨fm, hfm⟩⟩⟩ := hgo
  have hx := F.1
  have hb := F.2.1
  refine lv_aload_n hx hb dL_175 rfl (lv_at hl 1 rfl) ?_
  refine lw_callV (y := 73) (own := 8) (nm := ⟨"GoalsInAQueue", "goal", "()I"⟩) (rest := []) (av := []) F hM hl.1 rfl hr1 hd18 hfx hax (by rfl) (rEq_mem (i := 451) (by decide +kernel) rfl) (rEq_mem (i := 453) (by decide +kernel) rfl) (Nat.zero_le _) dL_176 rfl (fun w ws1 H1 locs1 hw hM1 hp1 => ?_)
  have ham1 : (rAd ws1)[km]? = some am := by
    obtain ⟨z, hz⟩ := hp1
    rw [← hz, List.getElem?_append_left (List.getElem?_eq_some_iff.mp ham).1]
    exact ham
  cases hw
  refine lv_pop hx hb dL_179 rfl ?_
  refine lv_aload_n hx hb dL_180 rfl (lv_at hl 2 rfl) ?_
  refine lw_callV (y := 129) (own := 9) (nm := ⟨"GoalsInAQueueModel", "goal", "()I"⟩) (rest := []) (av := []) F hM1 hl.1 rfl hr2 hd18 hfm ham1 (by rfl) (rEq_mem (i := 1107) (by decide +kernel) rfl) (rEq_mem (i := 1109) (by decide +kernel) rfl) (Nat.zero_le _) dL_181 rfl (fun w2 ws2 H2 locs2 hw2 hM2 hp2 => ?_)
  have hkk := kk ws2 H2 locs2 hM2 (hp1.trans hp2)
  cases hw2
  refine lv_pop hx hb dL_184 rfl ?_
  exact lv_goto (tgt := 770) hx hb dL_185 (by decide) hkk
theorem lwc_2 (F : lwF p s m meth c b L xs D ct) (hM : lwM D ct s M ws H locs) {ax am kx km t : Nat} (hl : lwL ls b ax am (nI t)) (hL : L < 2 ^ 31) (ht : t + 3 < L) (hax : (rAd ws)[kx]? = some ax) (ham : (rAd ws)[km]? = some am) {M2 : List rEnt} (hgo : lwGoU kx km 75 161 [.inl (xs (t + 1))] M M2)
    (kk : ∀ (ws2 : va_W) (H2 : Heap) (locs2 : List Loc), lwM D ct s M2 ws2 H2 locs2 → rAd ws <+: rAd ws2 → lwW p l e s m below meth c b H2 locs2 770 ls []) : lwW p l e s m below meth c b H locs 188 ls [] := by
  obtain ⟨N, d, r, r2, M1, hd18, hr1, hr2, ⟨⟨fx, hfx⟩, -⟩, ⟨-, ⟨fm, hfm⟩⟩⟩ := hgo
  have hx := F.1
  have hb := F.2.1
  refine lv_aload_n hx hb dL_188 rfl (lv_at hl 1 rfl) ?_
  refine lw_arg (j := 1) F hM hl hL rfl (by omega) dL_189 dL_190 dL_191 dL_192 dL_193 ?_
  refine lw_callV (y := 75) (own := 8) (nm := ⟨"GoalsInAQueue", "steps", "(I)I"⟩) (rest := []) (av := [.int (xs (t + 1))]) F hM hl.1 rfl hr1 hd18 hfx hax (by rfl) (rEq_mem (i := 536) (by decide +kernel) rfl) (rEq_mem (i := 538) (by decide +kernel) rfl) (Nat.zero_le _) dL_194 rfl (fun w ws1 H1 locs1 hw hM1 hp1 => ?_)
  have ham1 : (rAd ws1)[km]? = some am := by
    obtain ⟨z, hz⟩ := hp1
    rw [← hz, List.getElem?_append_left (List.getElem?_eq_some_iff.mp ham).1]
    exact ham
  cases hw
  refine lv_pop hx hb dL_197 rfl ?_
  refine lv_aload_n hx hb dL_198 rfl (lv_at hl 2 rfl) ?_
  refine lw_arg (j := 1) F hM1 hl hL rfl (by omega) dL_199 dL_200 dL_201 dL_202 dL_203 ?_
  refine lw_callV (y := 161) (own := 9) (nm := ⟨"GoalsInAQueueModel", "steps", "(I)I"⟩) (rest := []) (av := [.int (xs (t + 1))]) F hM1 hl.1 rfl hr2 hd18 hfm ham1 (by rfl) (rEq_mem (i := 1233) (by decide +kernel) rfl) (rEq_mem (i := 1235) (by decide +kernel) rfl) (Nat.zero_le _) dL_204 rfl (fun w2 ws2 H2 locs2 hw2 hM2 hp2 => ?_)
  have hkk := kk ws2 H2 locs2 hM2 (hp1.trans hp2)
  cases hw2
  refine lv_pop hx hb dL_207 rfl ?_
  exact lv_goto (tgt := 770) hx hb dL_208 (by decide) hkk
theorem lwc_3 (F : lwF p s m meth c b L xs D ct) (hM : lwM D ct s M ws H locs) {ax am kx km t : Nat} (hl : lwL ls b ax am (nI t)) (hL : L < 2 ^ 31) (ht : t + 3 < L) (hax : (rAd ws)[kx]? = some ax) (ham : (rAd ws)[km]? = some am) {M2 : List rEnt} (hgo : lwGoU kx km 79 162 [] M M2)
    (kk : ∀ (ws2 : va_W) (H2 : Heap) (locs2 : List Loc), lwM D ct s M2 ws2 H2 locs2 → rAd ws <+: rAd ws2 → lwW p l e s m below meth c b H2 locs2 770 ls []) : lwW p l e s m below meth c b H locs 211 ls [] := by
  obtain ⟨N, d, r, r2, M1, hd18, hr1, hr2, ⟨⟨fx, hfx⟩, -⟩, ⟨-, ⟨fm, hfm⟩⟩⟩ := hgo
  have hx := F.1
  have hb := F.2.1
  refine lv_aload_n hx hb dL_211 rfl (lv_at hl 1 rfl) ?_
  refine lw_callV (y := 79) (own := 8) (nm := ⟨"GoalsInAQueue", "answers", "()I"⟩) (rest := []) (av := []) F hM hl.1 rfl hr1 hd18 hfx hax (by rfl) (rEq_mem (i := 647) (by decide +kernel) rfl) (rEq_mem (i := 649) (by decide +kernel) rfl) (Nat.zero_le _) dL_212 rfl (fun w ws1 H1 locs1 hw hM1 hp1 => ?_)
  have ham1 : (rAd ws1)[km]? = some am := by
    obtain ⟨z, hz⟩ := hp1
    rw [← hz, List.getElem?_append_left (List.getElem?_eq_some_iff.mp ham).1]
    exact ham
  cases hw
  refine lv_pop hx hb dL_215 rfl ?_
  refine lv_aload_n hx hb dL_216 rfl (lv_at hl 2 rfl) ?_
  refine lw_callV (y := 162) (own := 9) (nm := ⟨"GoalsInAQueueModel", "answers", "()I"⟩) (rest := []) (av := []) F hM1 hl.1 rfl hr2 hd18 hfm ham1 (by rfl) (rEq_mem (i := 1237) (by decide +kernel) rfl) (rEq_mem (i := 1239) (by decide +kernel) rfl) (Nat.zero_le _) dL_217 rfl (fun w2 ws2 H2 locs2 hw2 hM2 hp2 => ?_)
  have hkk := kk ws2 H2 locs2 hM2 (hp1.trans hp2)
  cases hw2
  refine lv_pop hx hb dL_220 rfl ?_
  exact lv_goto (tgt := 770) hx hb dL_221 (by decide) hkk
theorem lwc_4 (F : lwF p s m meth c b L xs D ct) (hM : lwM D ct s M ws H locs) {ax am kx km t : Nat} (hl : lwL ls b ax am (nI t)) (hL : L < 2 ^ 31) (ht : t + 3 < L) (hax : (rAd ws)[kx]? = some ax) (ham : (rAd ws)[km]? = some am) {M2 : List rEnt} (hgo : lwGoU kx km 80 163 [.inl (xs (t + 1)), .inl (xs (t + 2))] M M2)
    (kk : ∀ (ws2 : va_W) (H2 : Heap) (locs2 : List Loc), lwM D ct s M2 ws2 H2 locs2 → rAd ws <+: rAd ws2 → lwW p l e s m below meth c b H2 locs2 770 ls []) : lwW p l e s m below meth c b H locs 224 ls [] := by
  obtain ⟨N, d, r, r2, M1, hd18, hr1, hr2, ⟨⟨fx, hfx⟩, -⟩, ⟨-, ⟨fm, hfm⟩⟩⟩ := hgo
  have hx := F.1
  have hb := F.2.1
  refine lv_aload_n hx hb dL_224 rfl (lv_at hl 1 rfl) ?_
  refine lw_arg (j := 1) F hM hl hL rfl (by omega) dL_225 dL_226 dL_227 dL_228 dL_229 ?_
  refine lw_arg (j := 2) F hM hl hL rfl (by omega) dL_230 dL_231 dL_232 dL_233 dL_234 ?_
  refine lw_callV (y := 80) (own := 8) (nm := ⟨"GoalsInAQueue", "length", "(II)I"⟩) (rest := []) (av := [.int (xs (t + 1)), .int (xs (t + 2))]) F hM hl.1 rfl hr1 hd18 hfx hax (by rfl) (rEq_mem (i := 651) (by decide +kernel) rfl) (rEq_mem (i := 653) (by decide +kernel) rfl) (Nat.zero_le _) dL_235 rfl (fun w ws1 H1 locs1 hw hM1 hp1 => ?_)
  have ham1 : (rAd ws1)[km]? = some am := by
    obtain ⟨z, hz⟩ := hp1
    rw [← hz, List.getElem?_append_left (List.getElem?_eq_some_iff.mp ham).1]
    exact ham
  cases hw
  refine lv_pop hx hb dL_238 rfl ?_
  refine lv_aload_n hx hb dL_239 rfl (lv_at hl 2 rfl) ?_
  refine lw_arg (j := 1) F hM1 hl hL rfl (by omega) dL_240 dL_241 dL_242 dL_243 dL_244 ?_
  refine lw_arg (j := 2) F hM1 hl hL rfl (by omega) dL_245 dL_246 dL_247 dL_248 dL_249 ?_
  refine lw_callV (y := 163) (own := 9) (nm := ⟨"GoalsInAQueueModel", "length", "(II)I"⟩) (rest := []) (av := [.int (xs (t + 1)), .int (xs (t + 2))]) F hM1 hl.1 rfl hr2 hd18 hfm ham1 (by rfl) (rEq_mem (i := 1241) (by decide +kernel) rfl) (rEq_mem (i := 1243) (by decide +kernel) rfl) (Nat.zero_le _) dL_250 rfl (fun w2 ws2 H2 locs2 hw2 hM2 hp2 => ?_)
  have hkk := kk ws2 H2 locs2 hM2 (hp1.trans hp2)
  cases hw2
  refine lv_pop hx hb dL_253 rfl ?_
  exact lv_goto (tgt := 770) hx hb dL_254 (by decide) hkk
theorem lwc_5 (F : lwF p s m meth c b L xs D ct) (hM : lwM D ct s M ws H locs) {ax am kx km t : Nat} (hl : lwL ls b ax am (nI t)) (hL : L < 2 ^ 31) (ht : t + 3 < L) (hax : (rAd ws)[kx]? = some ax) (ham : (rAd ws)[km]? = some am) {M2 : List rEnt} (hgo : lwGoU kx km 83 172 [.inl (xs (t + 1)), .inl (xs (t + 2)), .inl (xs (t + 3))] M M2)
    (kk : ∀ (ws2 : va_W) (H2 : Heap) (locs2 : List Loc), lwM D ct s M2 ws2 H2 locs2 → rAd ws <+: rAd ws2 → lwW p l e s m below meth c b H2 locs2 770 ls []) : lwW p l e s m below meth c b H locs 257 ls [] := by
  obtain ⟨N, d, r, r2, M1, hd18, hr1, hr2, ⟨⟨fx, hfx⟩, -⟩, ⟨-, ⟨fm, hfm⟩⟩⟩ := hgo
  have hx := F.1
  have hb := F.2.1
  refine lv_aload_n hx hb dL_257 rfl (lv_at hl 1 rfl) ?_
  refine lw_arg (j := 1) F hM hl hL rfl (by omega) dL_258 dL_259 dL_260 dL_261 dL_262 ?_
  refine lw_arg (j := 2) F hM hl hL rfl (by omega) dL_263 dL_264 dL_265 dL_266 dL_267 ?_
  refine lw_arg (j := 3) F hM hl hL rfl (by omega) dL_268 dL_269 dL_270 dL_271 dL_272 ?_
  refine lw_callV (y := 83) (own := 8) (nm := ⟨"GoalsInAQueue", "text", "(III)I"⟩) (rest := []) (av := [.int (xs (t + 1)), .int (xs (t + 2)), .int (xs (t + 3))]) F hM hl.1 rfl hr1 hd18 hfx hax (by rfl) (rEq_mem (i := 688) (by decide +kernel) rfl) (rEq_mem (i := 690) (by decide +kernel) rfl) (Nat.zero_le _) dL_273 rfl (fun w ws1 H1 locs1 hw hM1 hp1 => ?_)
  have ham1 : (rAd ws1)[km]? = some am := by
    obtain ⟨z, hz⟩ := hp1
    rw [← hz, List.getElem?_append_left (List.getElem?_eq_some_iff.mp ham).1]
    exact ham
  cases hw
  refine lv_pop hx hb dL_276 rfl ?_
  refine lv_aload_n hx hb dL_277 rfl (lv_at hl 2 rfl) ?_
  refine lw_arg (j := 1) F hM1 hl hL rfl (by omega) dL_278 dL_279 dL_280 dL_281 dL_282 ?_
  refine lw_arg (j := 2) F hM1 hl hL rfl (by omega) dL_283 dL_284 dL_285 dL_286 dL_287 ?_
  refine lw_arg (j := 3) F hM1 hl hL rfl (by omega) dL_288 dL_289 dL_290 dL_291 dL_292 ?_
  refine lw_callV (y := 172) (own := 9) (nm := ⟨"GoalsInAQueueModel", "text", "(III)I"⟩) (rest := []) (av := [.int (xs (t + 1)), .int (xs (t + 2)), .int (xs (t + 3))]) F hM1 hl.1 rfl hr2 hd18 hfm ham1 (by rfl) (rEq_mem (i := 1276) (by decide +kernel) rfl) (rEq_mem (i := 1278) (by decide +kernel) rfl) (Nat.zero_le _) dL_293 rfl (fun w2 ws2 H2 locs2 hw2 hM2 hp2 => ?_)
  have hkk := kk ws2 H2 locs2 hM2 (hp1.trans hp2)
  cases hw2
  refine lv_pop hx hb dL_296 rfl ?_
  exact lv_goto (tgt := 770) hx hb dL_297 (by decide) hkk
theorem lwc_6 (F : lwF p s m meth c b L xs D ct) (hM : lwM D ct s M ws H locs) {ax am kx km t : Nat} (hl : lwL ls b ax am (nI t)) (hL : L < 2 ^ 31) (ht : t + 3 < L) (hax : (rAd ws)[kx]? = some ax) (ham : (rAd ws)[km]? = some am) {M2 : List rEnt} (hgo : lwGoU kx km 84 173 [.inl (xs (t + 1))] M M2)
    (kk : ∀ (ws2 : va_W) (H2 : Heap) (locs2 : List Loc), lwM D ct s M2 ws2 H2 locs2 → rAd ws <+: rAd ws2 → lwW p l e s m below meth c b H2 locs2 770 ls []) : lwW p l e s m below meth c b H locs 300 ls [] := by
  obtain ⟨N, d, r, r2, M1, hd18, hr1, hr2, ⟨⟨fx, hfx⟩, -⟩, ⟨-, ⟨fm, hfm⟩⟩⟩ := hgo
  have hx := F.1
  have hb := F.2.1
  refine lv_aload_n hx hb dL_300 rfl (lv_at hl 1 rfl) ?_
  refine lw_arg (j := 1) F hM hl hL rfl (by omega) dL_301 dL_302 dL_303 dL_304 dL_305 ?_
  refine lw_callV (y := 84) (own := 8) (nm := ⟨"GoalsInAQueue", "when", "(I)I"⟩) (rest := []) (av := [.int (xs (t + 1))]) F hM hl.1 rfl hr1 hd18 hfx hax (by rfl) (rEq_mem (i := 696) (by decide +kernel) rfl) (rEq_mem (i := 698) (by decide +kernel) rfl) (Nat.zero_le _) dL_306 rfl (fun w ws1 H1 locs1 hw hM1 hp1 => ?_)
  have ham1 : (rAd ws1)[km]? = some am := by
    obtain ⟨z, hz⟩ := hp1
    rw [← hz, List.getElem?_append_left (List.getElem?_eq_some_iff.mp ham).1]
    exact ham
  cases hw
  refine lv_pop hx hb dL_309 rfl ?_
  refine lv_aload_n hx hb dL_310 rfl (lv_at hl 2 rfl) ?_
  refine lw_arg (j := 1) F hM1 hl hL rfl (by omega) dL_311 dL_312 dL_313 dL_314 dL_315 ?_
  refine lw_callV (y := 173) (own := 9) (nm := ⟨"GoalsInAQueueModel", "when", "(I)I"⟩) (rest := []) (av := [.int (xs (t + 1))]) F hM1 hl.1 rfl hr2 hd18 hfm ham1 (by rfl) (rEq_mem (i := 1280) (by decide +kernel) rfl) (rEq_mem (i := 1282) (by decide +kernel) rfl) (Nat.zero_le _) dL_316 rfl (fun w2 ws2 H2 locs2 hw2 hM2 hp2 => ?_)
  have hkk := kk ws2 H2 locs2 hM2 (hp1.trans hp2)
  cases hw2
  refine lv_pop hx hb dL_319 rfl ?_
  exact lv_goto (tgt := 770) hx hb dL_320 (by decide) hkk
theorem lwc_7 (F : lwF p s m meth c b L xs D ct) (hM : lwM D ct s M ws H locs) {ax am kx km t : Nat} (hl : lwL ls b ax am (nI t)) (hL : L < 2 ^ 31) (ht : t + 3 < L) (hax : (rAd ws)[kx]? = some ax) (ham : (rAd ws)[km]? = some am) {M2 : List rEnt} (hgo : lwGoU kx km 85 174 [.inl (xs (t + 1))] M M2)
    (kk : ∀ (ws2 : va_W) (H2 : Heap) (locs2 : List Loc), lwM D ct s M2 ws2 H2 locs2 → rAd ws <+: rAd ws2 → lwW p l e s m below meth c b H2 locs2 770 ls []) : lwW p l e s m below meth c b H locs 323 ls [] := by
  obtain ⟨N, d, r, r2, M1, hd18, hr1, hr2, ⟨⟨fx, hfx⟩, -⟩, ⟨-, ⟨fm, hfm⟩⟩⟩ := hgo
  have hx := F.1
  have hb := F.2.1
  refine lv_aload_n hx hb dL_323 rfl (lv_at hl 1 rfl) ?_
  refine lw_arg (j := 1) F hM hl hL rfl (by omega) dL_324 dL_325 dL_326 dL_327 dL_328 ?_
  refine lw_callV (y := 85) (own := 8) (nm := ⟨"GoalsInAQueue", "kept", "(I)I"⟩) (rest := []) (av := [.int (xs (t + 1))]) F hM hl.1 rfl hr1 hd18 hfx hax (by rfl) (rEq_mem (i := 704) (by decide +kernel) rfl) (rEq_mem (i := 706) (by decide +kernel) rfl) (Nat.zero_le _) dL_329 rfl (fun w ws1 H1 locs1 hw hM1 hp1 => ?_)
  have ham1 : (rAd ws1)[km]? = some am := by
    obtain ⟨z, hz⟩ := hp1
    rw [← hz, List.getElem?_append_left (List.getElem?_eq_some_iff.mp ham).1]
    exact ham
  cases hw
  refine lv_pop hx hb dL_332 rfl ?_
  refine lv_aload_n hx hb dL_333 rfl (lv_at hl 2 rfl) ?_
  refine lw_arg (j := 1) F hM1 hl hL rfl (by omega) dL_334 dL_335 dL_336 dL_337 dL_338 ?_
  refine lw_callV (y := 174) (own := 9) (nm := ⟨"GoalsInAQueueModel", "kept", "(I)I"⟩) (rest := []) (av := [.int (xs (t + 1))]) F hM1 hl.1 rfl hr2 hd18 hfm ham1 (by rfl) (rEq_mem (i := 1284) (by decide +kernel) rfl) (rEq_mem (i := 1286) (by decide +kernel) rfl) (Nat.zero_le _) dL_339 rfl (fun w2 ws2 H2 locs2 hw2 hM2 hp2 => ?_)
  have hkk := kk ws2 H2 locs2 hM2 (hp1.trans hp2)
  cases hw2
  refine lv_pop hx hb dL_342 rfl ?_
  exact lv_goto (tgt := 770) hx hb dL_343 (by decide) hkk
theorem lwc_8 (F : lwF p s m meth c b L xs D ct) (hM : lwM D ct s M ws H locs) {ax am kx km t : Nat} (hl : lwL ls b ax am (nI t)) (hL : L < 2 ^ 31) (ht : t + 3 < L) (hax : (rAd ws)[kx]? = some ax) (ham : (rAd ws)[km]? = some am) {M2 : List rEnt} (hgo : lwGoU kx km 86 175 [.inl (xs (t + 1))] M M2)
    (kk : ∀ (ws2 : va_W) (H2 : Heap) (locs2 : List Loc), lwM D ct s M2 ws2 H2 locs2 → rAd ws <+: rAd ws2 → lwW p l e s m below meth c b H2 locs2 770 ls []) : lwW p l e s m below meth c b H locs 346 ls [] := by
  obtain ⟨N, d, r, r2, M1, hd18, hr1, hr2, ⟨⟨fx, hfx⟩, -⟩, ⟨-, ⟨fm, hfm⟩⟩⟩ := hgo
  have hx := F.1
  have hb := F.2.1
  refine lv_aload_n hx hb dL_346 rfl (lv_at hl 1 rfl) ?_
  refine lw_arg (j := 1) F hM hl hL rfl (by omega) dL_347 dL_348 dL_349 dL_350 dL_351 ?_
  refine lw_callV (y := 86) (own := 8) (nm := ⟨"GoalsInAQueue", "queue", "(I)I"⟩) (rest := []) (av := [.int (xs (t + 1))]) F hM hl.1 rfl hr1 hd18 hfx hax (by rfl) (rEq_mem (i := 714) (by decide +kernel) rfl) (rEq_mem (i := 716) (by decide +kernel) rfl) (Nat.zero_le _) dL_352 rfl (fun w ws1 H1 locs1 hw hM1 hp1 => ?_)
  have ham1 : (rAd ws1)[km]? = some am := by
    obtain ⟨z, hz⟩ := hp1
    rw [← hz, List.getElem?_append_left (List.getElem?_eq_some_iff.mp ham).1]
    exact ham
  cases hw
  refine lv_pop hx hb dL_355 rfl ?_
  refine lv_aload_n hx hb dL_356 rfl (lv_at hl 2 rfl) ?_
  refine lw_arg (j := 1) F hM1 hl hL rfl (by omega) dL_357 dL_358 dL_359 dL_360 dL_361 ?_
  refine lw_callV (y := 175) (own := 9) (nm := ⟨"GoalsInAQueueModel", "queue", "(I)I"⟩) (rest := []) (av := [.int (xs (t + 1))]) F hM1 hl.1 rfl hr2 hd18 hfm ham1 (by rfl) (rEq_mem (i := 1288) (by decide +kernel) rfl) (rEq_mem (i := 1290) (by decide +kernel) rfl) (Nat.zero_le _) dL_362 rfl (fun w2 ws2 H2 locs2 hw2 hM2 hp2 => ?_)
  have hkk := kk ws2 H2 locs2 hM2 (hp1.trans hp2)
  cases hw2
  refine lv_pop hx hb dL_365 rfl ?_
  exact lv_goto (tgt := 770) hx hb dL_366 (by decide) hkk
theorem lwc_9 (F : lwF p s m meth c b L xs D ct) (hM : lwM D ct s M ws H locs) {ax am kx km t : Nat} (hl : lwL ls b ax am (nI t)) (hL : L < 2 ^ 31) (ht : t + 3 < L) (hax : (rAd ws)[kx]? = some ax) (ham : (rAd ws)[km]? = some am) {M2 : List rEnt} (hgo : lwGoU kx km 87 176 [] M M2)
    (kk : ∀ (ws2 : va_W) (H2 : Heap) (locs2 : List Loc), lwM D ct s M2 ws2 H2 locs2 → rAd ws <+: rAd ws2 → lwW p l e s m below meth c b H2 locs2 770 ls []) : lwW p l e s m below meth c b H locs 369 ls [] := by
  obtain ⟨N, d, r, r2, M1, hd18, hr1, hr2, ⟨⟨fx, hfx⟩, -⟩, ⟨-, ⟨fm, hfm⟩⟩⟩ := hgo
  have hx := F.1
  have hb := F.2.1
  refine lv_aload_n hx hb dL_369 rfl (lv_at hl 1 rfl) ?_
  refine lw_callV (y := 87) (own := 8) (nm := ⟨"GoalsInAQueue", "done", "()I"⟩) (rest := []) (av := []) F hM hl.1 rfl hr1 hd18 hfx hax (by rfl) (rEq_mem (i := 719) (by decide +kernel) rfl) (rEq_mem (i := 721) (by decide +kernel) rfl) (Nat.zero_le _) dL_370 rfl (fun w ws1 H1 locs1 hw hM1 hp1 => ?_)
  have ham1 : (rAd ws1)[km]? = some am := by
    obtain ⟨z, hz⟩ := hp1
    rw [← hz, List.getElem?_append_left (List.getElem?_eq_some_iff.mp ham).1]
    exact ham
  cases hw
  refine lv_pop hx hb dL_373 rfl ?_
  refine lv_aload_n hx hb dL_374 rfl (lv_at hl 2 rfl) ?_
  refine lw_callV (y := 176) (own := 9) (nm := ⟨"GoalsInAQueueModel", "done", "()I"⟩) (rest := []) (av := []) F hM1 hl.1 rfl hr2 hd18 hfm ham1 (by rfl) (rEq_mem (i := 1292) (by decide +kernel) rfl) (rEq_mem (i := 1294) (by decide +kernel) rfl) (Nat.zero_le _) dL_375 rfl (fun w2 ws2 H2 locs2 hw2 hM2 hp2 => ?_)
  have hkk := kk ws2 H2 locs2 hM2 (hp1.trans hp2)
  cases hw2
  refine lv_pop hx hb dL_378 rfl ?_
  exact lv_goto (tgt := 770) hx hb dL_379 (by decide) hkk
theorem lwc_10 (F : lwF p s m meth c b L xs D ct) (hM : lwM D ct s M ws H locs) {ax am kx km t : Nat} (hl : lwL ls b ax am (nI t)) (hL : L < 2 ^ 31) (ht : t + 3 < L) (hax : (rAd ws)[kx]? = some ax) (ham : (rAd ws)[km]? = some am) {M2 : List rEnt} (hgo : lwGoU kx km 88 177 [.inl (xs (t + 1))] M M2)
    (kk : ∀ (ws2 : va_W) (H2 : Heap) (locs2 : List Loc), lwM D ct s M2 ws2 H2 locs2 → rAd ws <+: rAd ws2 → lwW p l e s m below meth c b H2 locs2 770 ls []) : lwW p l e s m below meth c b H locs 382 ls [] := by
  obtain ⟨N, d, r, r2, M1, hd18, hr1, hr2, ⟨⟨fx, hfx⟩, -⟩, ⟨-, ⟨fm, hfm⟩⟩⟩ := hgo
  have hx := F.1
  have hb := F.2.1
  refine lv_aload_n hx hb dL_382 rfl (lv_at hl 1 rfl) ?_
  refine lw_arg (j := 1) F hM hl hL rfl (by omega) dL_383 dL_384 dL_385 dL_386 dL_387 ?_
  refine lw_callV (y := 88) (own := 8) (nm := ⟨"GoalsInAQueue", "different", "(I)I"⟩) (rest := []) (av := [.int (xs (t + 1))]) F hM hl.1 rfl hr1 hd18 hfx hax (by rfl) (rEq_mem (i := 724) (by decide +kernel) rfl) (rEq_mem (i := 726) (by decide +kernel) rfl) (Nat.zero_le _) dL_388 rfl (fun w ws1 H1 locs1 hw hM1 hp1 => ?_)
  have ham1 : (rAd ws1)[km]? = some am := by
    obtain ⟨z, hz⟩ := hp1
    rw [← hz, List.getElem?_append_left (List.getElem?_eq_some_iff.mp ham).1]
    exact ham
  cases hw
  refine lv_pop hx hb dL_391 rfl ?_
  refine lv_aload_n hx hb dL_392 rfl (lv_at hl 2 rfl) ?_
  refine lw_arg (j := 1) F hM1 hl hL rfl (by omega) dL_393 dL_394 dL_395 dL_396 dL_397 ?_
  refine lw_callV (y := 177) (own := 9) (nm := ⟨"GoalsInAQueueModel", "different", "(I)I"⟩) (rest := []) (av := [.int (xs (t + 1))]) F hM1 hl.1 rfl hr2 hd18 hfm ham1 (by rfl) (rEq_mem (i := 1296) (by decide +kernel) rfl) (rEq_mem (i := 1298) (by decide +kernel) rfl) (Nat.zero_le _) dL_398 rfl (fun w2 ws2 H2 locs2 hw2 hM2 hp2 => ?_)
  have hkk := kk ws2 H2 locs2 hM2 (hp1.trans hp2)
  cases hw2
  refine lv_pop hx hb dL_401 rfl ?_
  exact lv_goto (tgt := 770) hx hb dL_402 (by decide) hkk
theorem lwc_11 (F : lwF p s m meth c b L xs D ct) (hM : lwM D ct s M ws H locs) {ax am kx km t : Nat} (hl : lwL ls b ax am (nI t)) (hL : L < 2 ^ 31) (ht : t + 3 < L) (hax : (rAd ws)[kx]? = some ax) (ham : (rAd ws)[km]? = some am) {M2 : List rEnt} (hgo : lwGoU kx km 92 180 [.inl (xs (t + 1)), .inl (xs (t + 2))] M M2)
    (kk : ∀ (ws2 : va_W) (H2 : Heap) (locs2 : List Loc), lwM D ct s M2 ws2 H2 locs2 → rAd ws <+: rAd ws2 → lwW p l e s m below meth c b H2 locs2 770 ls []) : lwW p l e s m below meth c b H locs 405 ls [] := by
  obtain ⟨N, d, r, r2, M1, hd18, hr1, hr2, ⟨⟨fx, hfx⟩, -⟩, ⟨-, ⟨fm, hfm⟩⟩⟩ := hgo
  have hx := F.1
  have hb := F.2.1
  refine lv_aload_n hx hb dL_405 rfl (lv_at hl 1 rfl) ?_
  refine lw_arg (j := 1) F hM hl hL rfl (by omega) dL_406 dL_407 dL_408 dL_409 dL_410 ?_
  refine lw_arg (j := 2) F hM hl hL rfl (by omega) dL_411 dL_412 dL_413 dL_414 dL_415 ?_
  refine lw_callV (y := 92) (own := 8) (nm := ⟨"GoalsInAQueue", "earliest", "(II)I"⟩) (rest := []) (av := [.int (xs (t + 1)), .int (xs (t + 2))]) F hM hl.1 rfl hr1 hd18 hfx hax (by rfl) (rEq_mem (i := 740) (by decide +kernel) rfl) (rEq_mem (i := 742) (by decide +kernel) rfl) (Nat.zero_le _) dL_416 rfl (fun w ws1 H1 locs1 hw hM1 hp1 => ?_)
  have ham1 : (rAd ws1)[km]? = some am := by
    obtain ⟨z, hz⟩ := hp1
    rw [← hz, List.getElem?_append_left (List.getElem?_eq_some_iff.mp ham).1]
    exact ham
  cases hw
  refine lv_pop hx hb dL_419 rfl ?_
  refine lv_aload_n hx hb dL_420 rfl (lv_at hl 2 rfl) ?_
  refine lw_arg (j := 1) F hM1 hl hL rfl (by omega) dL_421 dL_422 dL_423 dL_424 dL_425 ?_
  refine lw_arg (j := 2) F hM1 hl hL rfl (by omega) dL_426 dL_427 dL_428 dL_429 dL_430 ?_
  refine lw_callV (y := 180) (own := 9) (nm := ⟨"GoalsInAQueueModel", "earliest", "(II)I"⟩) (rest := []) (av := [.int (xs (t + 1)), .int (xs (t + 2))]) F hM1 hl.1 rfl hr2 hd18 hfm ham1 (by rfl) (rEq_mem (i := 1308) (by decide +kernel) rfl) (rEq_mem (i := 1310) (by decide +kernel) rfl) (Nat.zero_le _) dL_431 rfl (fun w2 ws2 H2 locs2 hw2 hM2 hp2 => ?_)
  have hkk := kk ws2 H2 locs2 hM2 (hp1.trans hp2)
  cases hw2
  refine lv_pop hx hb dL_434 rfl ?_
  exact lv_goto (tgt := 770) hx hb dL_435 (by decide) hkk
theorem lwc_12 (F : lwF p s m meth c b L xs D ct) (hM : lwM D ct s M ws H locs) {ax am kx km t : Nat} (hl : lwL ls b ax am (nI t)) (hL : L < 2 ^ 31) (ht : t + 3 < L) (hax : (rAd ws)[kx]? = some ax) (ham : (rAd ws)[km]? = some am) {M2 : List rEnt} (hgo : lwGo kx km 93 181 [.inl (xs (t + 1)), .inl (xs (t + 2))] M M2)
    (kk : ∀ (ws2 : va_W) (H2 : Heap) (locs2 : List Loc), lwM D ct s M2 ws2 H2 locs2 → rAd ws <+: rAd ws2 → lwW p l e s m below meth c b H2 locs2 770 ls []) : lwW p l e s m below meth c b H locs 438 ls [] := by
  obtain ⟨N, d, r, M1, hd18, hr1, hr2, ⟨⟨fx, hfx⟩, -⟩, ⟨-, ⟨fm, hfm⟩⟩⟩ := hgo
  have hx := F.1
  have hb := F.2.1
  refine lv_aload_n hx hb dL_438 rfl (lv_at hl 1 rfl) ?_
  refine lw_arg (j := 1) F hM hl hL rfl (by omega) dL_439 dL_440 dL_441 dL_442 dL_443 ?_
  refine lw_arg (j := 2) F hM hl hL rfl (by omega) dL_444 dL_445 dL_446 dL_447 dL_448 ?_
  refine lw_callV (y := 93) (own := 8) (nm := ⟨"GoalsInAQueue", "meet", "(II)I"⟩) (rest := []) (av := [.int (xs (t + 1)), .int (xs (t + 2))]) F hM hl.1 rfl hr1 hd18 hfx hax (by rfl) (rEq_mem (i := 744) (by decide +kernel) rfl) (rEq_mem (i := 746) (by decide +kernel) rfl) (Nat.zero_le _) dL_449 rfl (fun w ws1 H1 locs1 hw hM1 hp1 => ?_)
  have ham1 : (rAd ws1)[km]? = some am := by
    obtain ⟨z, hz⟩ := hp1
    rw [← hz, List.getElem?_append_left (List.getElem?_eq_some_iff.mp ham).1]
    exact ham
  refine lv_aload_n hx hb dL_452 rfl (lv_at hl 2 rfl) ?_
  refine lw_arg (j := 1) F hM1 hl hL rfl (by omega) dL_453 dL_454 dL_455 dL_456 dL_457 ?_
  refine lw_arg (j := 2) F hM1 hl hL rfl (by omega) dL_458 dL_459 dL_460 dL_461 dL_462 ?_
  have hcat : w.category ≤ 2 := by rcases lv_cat w with h9 | h9 <;> omega
  refine lw_callV (y := 181) (own := 9) (nm := ⟨"GoalsInAQueueModel", "meet", "(II)I"⟩) (rest := [w]) (av := [.int (xs (t + 1)), .int (xs (t + 2))]) F hM1 hl.1 rfl hr2 hd18 hfm ham1 (by rfl) (rEq_mem (i := 1312) (by decide +kernel) rfl) (rEq_mem (i := 1314) (by decide +kernel) rfl) (by simp only [List.map_cons, List.map_nil, List.sum_cons, List.sum_nil]; omega) dL_463 rfl (fun w2 ws2 H2 locs2 hw2 hM2 hp2 => ?_)
  have hkk := kk ws2 H2 locs2 hM2 (hp1.trans hp2)
  cases hw
  cases hw2
  exact lv_icmp_eq (tgt := 770) hx hb dL_466 (by decide) (fun _ => hkk) (fun q => absurd rfl q)
theorem lwc_13 (F : lwF p s m meth c b L xs D ct) (hM : lwM D ct s M ws H locs) {ax am kx km t : Nat} (hl : lwL ls b ax am (nI t)) (hL : L < 2 ^ 31) (ht : t + 3 < L) (hax : (rAd ws)[kx]? = some ax) (ham : (rAd ws)[km]? = some am) {M2 : List rEnt} (hgo : lwGoU kx km 95 182 [.inl (xs (t + 1))] M M2)
    (kk : ∀ (ws2 : va_W) (H2 : Heap) (locs2 : List Loc), lwM D ct s M2 ws2 H2 locs2 → rAd ws <+: rAd ws2 → lwW p l e s m below meth c b H2 locs2 770 ls []) : lwW p l e s m below meth c b H locs 471 ls [] := by
  obtain ⟨N, d, r, r2, M1, hd18, hr1, hr2, ⟨⟨fx, hfx⟩, -⟩, ⟨-, ⟨fm, hfm⟩⟩⟩ := hgo
  have hx := F.1
  have hb := F.2.1
  refine lv_aload_n hx hb dL_471 rfl (lv_at hl 1 rfl) ?_
  refine lw_arg (j := 1) F hM hl hL rfl (by omega) dL_472 dL_473 dL_474 dL_475 dL_476 ?_
  refine lw_callV (y := 95) (own := 8) (nm := ⟨"GoalsInAQueue", "need", "(I)I"⟩) (rest := []) (av := [.int (xs (t + 1))]) F hM hl.1 rfl hr1 hd18 hfx hax (by rfl) (rEq_mem (i := 755) (by decide +kernel) rfl) (rEq_mem (i := 757) (by decide +kernel) rfl) (Nat.zero_le _) dL_477 rfl (fun w ws1 H1 locs1 hw hM1 hp1 => ?_)
  have ham1 : (rAd ws1)[km]? = some am := by
    obtain ⟨z, hz⟩ := hp1
    rw [← hz, List.getElem?_append_left (List.getElem?_eq_some_iff.mp ham).1]
    exact ham
  cases hw
  refine lv_pop hx hb dL_480 rfl ?_
  refine lv_aload_n hx hb dL_481 rfl (lv_at hl 2 rfl) ?_
  refine lw_arg (j := 1) F hM1 hl hL rfl (by omega) dL_482 dL_483 dL_484 dL_485 dL_486 ?_
  refine lw_callV (y := 182) (own := 9) (nm := ⟨"GoalsInAQueueModel", "need", "(I)I"⟩) (rest := []) (av := [.int (xs (t + 1))]) F hM1 hl.1 rfl hr2 hd18 hfm ham1 (by rfl) (rEq_mem (i := 1316) (by decide +kernel) rfl) (rEq_mem (i := 1318) (by decide +kernel) rfl) (Nat.zero_le _) dL_487 rfl (fun w2 ws2 H2 locs2 hw2 hM2 hp2 => ?_)
  have hkk := kk ws2 H2 locs2 hM2 (hp1.trans hp2)
  cases hw2
  refine lv_pop hx hb dL_490 rfl ?_
  exact lv_goto (tgt := 770) hx hb dL_491 (by decide) hkk
theorem lwc_14 (F : lwF p s m meth c b L xs D ct) (hM : lwM D ct s M ws H locs) {ax am kx km t : Nat} (hl : lwL ls b ax am (nI t)) (hL : L < 2 ^ 31) (ht : t + 3 < L) (hax : (rAd ws)[kx]? = some ax) (ham : (rAd ws)[km]? = some am) {M2 : List rEnt} (hgo : lwGoU kx km 96 185 [.inl (xs (t + 1)), .inl (xs (t + 2))] M M2)
    (kk : ∀ (ws2 : va_W) (H2 : Heap) (locs2 : List Loc), lwM D ct s M2 ws2 H2 locs2 → rAd ws <+: rAd ws2 → lwW p l e s m below meth c b H2 locs2 770 ls []) : lwW p l e s m below meth c b H locs 494 ls [] := by
  obtain ⟨N, d, r, r2, M1, hd18, hr1, hr2, ⟨⟨fx, hfx⟩, -⟩, ⟨-, ⟨fm, hfm⟩⟩⟩ := hgo
  have hx := F.1
  have hb := F.2.1
  refine lv_aload_n hx hb dL_494 rfl (lv_at hl 1 rfl) ?_
  refine lw_arg (j := 1) F hM hl hL rfl (by omega) dL_495 dL_496 dL_497 dL_498 dL_499 ?_
  refine lw_arg (j := 2) F hM hl hL rfl (by omega) dL_500 dL_501 dL_502 dL_503 dL_504 ?_
  refine lw_callV (y := 96) (own := 8) (nm := ⟨"GoalsInAQueue", "left", "(II)I"⟩) (rest := []) (av := [.int (xs (t + 1)), .int (xs (t + 2))]) F hM hl.1 rfl hr1 hd18 hfx hax (by rfl) (rEq_mem (i := 759) (by decide +kernel) rfl) (rEq_mem (i := 761) (by decide +kernel) rfl) (Nat.zero_le _) dL_505 rfl (fun w ws1 H1 locs1 hw hM1 hp1 => ?_)
  have ham1 : (rAd ws1)[km]? = some am := by
    obtain ⟨z, hz⟩ := hp1
    rw [← hz, List.getElem?_append_left (List.getElem?_eq_some_iff.mp ham).1]
    exact ham
  cases hw
  refine lv_pop hx hb dL_508 rfl ?_
  refine lv_aload_n hx hb dL_509 rfl (lv_at hl 2 rfl) ?_
  refine lw_arg (j := 1) F hM1 hl hL rfl (by omega) dL_510 dL_511 dL_512 dL_513 dL_514 ?_
  refine lw_arg (j := 2) F hM1 hl hL rfl (by omega) dL_515 dL_516 dL_517 dL_518 dL_519 ?_
  refine lw_callV (y := 185) (own := 9) (nm := ⟨"GoalsInAQueueModel", "left", "(II)I"⟩) (rest := []) (av := [.int (xs (t + 1)), .int (xs (t + 2))]) F hM1 hl.1 rfl hr2 hd18 hfm ham1 (by rfl) (rEq_mem (i := 1328) (by decide +kernel) rfl) (rEq_mem (i := 1330) (by decide +kernel) rfl) (Nat.zero_le _) dL_520 rfl (fun w2 ws2 H2 locs2 hw2 hM2 hp2 => ?_)
  have hkk := kk ws2 H2 locs2 hM2 (hp1.trans hp2)
  cases hw2
  refine lv_pop hx hb dL_523 rfl ?_
  exact lv_goto (tgt := 770) hx hb dL_524 (by decide) hkk
theorem lwc_15 (F : lwF p s m meth c b L xs D ct) (hM : lwM D ct s M ws H locs) {ax am kx km t : Nat} (hl : lwL ls b ax am (nI t)) (hL : L < 2 ^ 31) (ht : t + 3 < L) (hax : (rAd ws)[kx]? = some ax) (ham : (rAd ws)[km]? = some am) {M2 : List rEnt} (hgo : lwGoU kx km 98 189 [.inl (xs (t + 1))] M M2)
    (kk : ∀ (ws2 : va_W) (H2 : Heap) (locs2 : List Loc), lwM D ct s M2 ws2 H2 locs2 → rAd ws <+: rAd ws2 → lwW p l e s m below meth c b H2 locs2 770 ls []) : lwW p l e s m below meth c b H locs 527 ls [] := by
  obtain ⟨N, d, r, r2, M1, hd18, hr1, hr2, ⟨⟨fx, hfx⟩, -⟩, ⟨-, ⟨fm, hfm⟩⟩⟩ := hgo
  have hx := F.1
  have hb := F.2.1
  refine lv_aload_n hx hb dL_527 rfl (lv_at hl 1 rfl) ?_
  refine lw_arg (j := 1) F hM hl hL rfl (by omega) dL_528 dL_529 dL_530 dL_531 dL_532 ?_
  refine lw_callV (y := 98) (own := 8) (nm := ⟨"GoalsInAQueue", "least", "(I)I"⟩) (rest := []) (av := [.int (xs (t + 1))]) F hM hl.1 rfl hr1 hd18 hfx hax (by rfl) (rEq_mem (i := 770) (by decide +kernel) rfl) (rEq_mem (i := 772) (by decide +kernel) rfl) (Nat.zero_le _) dL_533 rfl (fun w ws1 H1 locs1 hw hM1 hp1 => ?_)
  have ham1 : (rAd ws1)[km]? = some am := by
    obtain ⟨z, hz⟩ := hp1
    rw [← hz, List.getElem?_append_left (List.getElem?_eq_some_iff.mp ham).1]
    exact ham
  cases hw
  refine lv_pop hx hb dL_536 rfl ?_
  refine lv_aload_n hx hb dL_537 rfl (lv_at hl 2 rfl) ?_
  refine lw_arg (j := 1) F hM1 hl hL rfl (by omega) dL_538 dL_539 dL_540 dL_541 dL_542 ?_
  refine lw_callV (y := 189) (own := 9) (nm := ⟨"GoalsInAQueueModel", "least", "(I)I"⟩) (rest := []) (av := [.int (xs (t + 1))]) F hM1 hl.1 rfl hr2 hd18 hfm ham1 (by rfl) (rEq_mem (i := 1344) (by decide +kernel) rfl) (rEq_mem (i := 1346) (by decide +kernel) rfl) (Nat.zero_le _) dL_543 rfl (fun w2 ws2 H2 locs2 hw2 hM2 hp2 => ?_)
  have hkk := kk ws2 H2 locs2 hM2 (hp1.trans hp2)
  cases hw2
  refine lv_pop hx hb dL_546 rfl ?_
  exact lv_goto (tgt := 770) hx hb dL_547 (by decide) hkk
theorem lwc_16 (F : lwF p s m meth c b L xs D ct) (hM : lwM D ct s M ws H locs) {ax am kx km t : Nat} (hl : lwL ls b ax am (nI t)) (hL : L < 2 ^ 31) (ht : t + 3 < L) (hax : (rAd ws)[kx]? = some ax) (ham : (rAd ws)[km]? = some am) {M2 : List rEnt} (hgo : lwGoU kx km 99 190 [.inl (xs (t + 1))] M M2)
    (kk : ∀ (ws2 : va_W) (H2 : Heap) (locs2 : List Loc), lwM D ct s M2 ws2 H2 locs2 → rAd ws <+: rAd ws2 → lwW p l e s m below meth c b H2 locs2 770 ls []) : lwW p l e s m below meth c b H locs 550 ls [] := by
  obtain ⟨N, d, r, r2, M1, hd18, hr1, hr2, ⟨⟨fx, hfx⟩, -⟩, ⟨-, ⟨fm, hfm⟩⟩⟩ := hgo
  have hx := F.1
  have hb := F.2.1
  refine lv_aload_n hx hb dL_550 rfl (lv_at hl 1 rfl) ?_
  refine lw_arg (j := 1) F hM hl hL rfl (by omega) dL_551 dL_552 dL_553 dL_554 dL_555 ?_
  refine lw_callV (y := 99) (own := 8) (nm := ⟨"GoalsInAQueue", "turned", "(I)I"⟩) (rest := []) (av := [.int (xs (t + 1))]) F hM hl.1 rfl hr1 hd18 hfx hax (by rfl) (rEq_mem (i := 774) (by decide +kernel) rfl) (rEq_mem (i := 776) (by decide +kernel) rfl) (Nat.zero_le _) dL_556 rfl (fun w ws1 H1 locs1 hw hM1 hp1 => ?_)
  have ham1 : (rAd ws1)[km]? = some am := by
    obtain ⟨z, hz⟩ := hp1
    rw [← hz, List.getElem?_append_left (List.getElem?_eq_some_iff.mp ham).1]
    exact ham
  cases hw
  refine lv_pop hx hb dL_559 rfl ?_
  refine lv_aload_n hx hb dL_560 rfl (lv_at hl 2 rfl) ?_
  refine lw_arg (j := 1) F hM1 hl hL rfl (by omega) dL_561 dL_562 dL_563 dL_564 dL_565 ?_
  refine lw_callV (y := 190) (own := 9) (nm := ⟨"GoalsInAQueueModel", "turned", "(I)I"⟩) (rest := []) (av := [.int (xs (t + 1))]) F hM1 hl.1 rfl hr2 hd18 hfm ham1 (by rfl) (rEq_mem (i := 1348) (by decide +kernel) rfl) (rEq_mem (i := 1350) (by decide +kernel) rfl) (Nat.zero_le _) dL_566 rfl (fun w2 ws2 H2 locs2 hw2 hM2 hp2 => ?_)
  have hkk := kk ws2 H2 locs2 hM2 (hp1.trans hp2)
  cases hw2
  refine lv_pop hx hb dL_569 rfl ?_
  exact lv_goto (tgt := 770) hx hb dL_570 (by decide) hkk
theorem lwc_17 (F : lwF p s m meth c b L xs D ct) (hM : lwM D ct s M ws H locs) {ax am kx km t : Nat} (hl : lwL ls b ax am (nI t)) (hL : L < 2 ^ 31) (ht : t + 3 < L) (hax : (rAd ws)[kx]? = some ax) (ham : (rAd ws)[km]? = some am) {M2 : List rEnt} (hgo : lwGoUL kx km 100 191 [.inl (xs (t + 1))] M M2)
    (kk : ∀ (ws2 : va_W) (H2 : Heap) (locs2 : List Loc), lwM D ct s M2 ws2 H2 locs2 → rAd ws <+: rAd ws2 → lwW p l e s m below meth c b H2 locs2 770 ls []) : lwW p l e s m below meth c b H locs 573 ls [] := by
  obtain ⟨N, d, r, r2, M1, hd18, hr1, hr2, ⟨⟨fx, hfx⟩, -⟩, ⟨-, ⟨fm, hfm⟩⟩⟩ := hgo
  have hx := F.1
  have hb := F.2.1
  refine lv_aload_n hx hb dL_573 rfl (lv_at hl 1 rfl) ?_
  refine lw_arg (j := 1) F hM hl hL rfl (by omega) dL_574 dL_575 dL_576 dL_577 dL_578 ?_
  refine lw_callV (y := 100) (own := 8) (nm := ⟨"GoalsInAQueue", "share", "(I)J"⟩) (rest := []) (av := [.int (xs (t + 1))]) F hM hl.1 rfl hr1 hd18 hfx hax (by rfl) (rEq_mem (i := 780) (by decide +kernel) rfl) (rEq_mem (i := 782) (by decide +kernel) rfl) (Nat.zero_le _) dL_579 rfl (fun w ws1 H1 locs1 hw hM1 hp1 => ?_)
  have ham1 : (rAd ws1)[km]? = some am := by
    obtain ⟨z, hz⟩ := hp1
    rw [← hz, List.getElem?_append_left (List.getElem?_eq_some_iff.mp ham).1]
    exact ham
  cases hw
  refine lv_pop2_2 hx hb dL_582 rfl ?_
  refine lv_aload_n hx hb dL_583 rfl (lv_at hl 2 rfl) ?_
  refine lw_arg (j := 1) F hM1 hl hL rfl (by omega) dL_584 dL_585 dL_586 dL_587 dL_588 ?_
  refine lw_callV (y := 191) (own := 9) (nm := ⟨"GoalsInAQueueModel", "share", "(I)J"⟩) (rest := []) (av := [.int (xs (t + 1))]) F hM1 hl.1 rfl hr2 hd18 hfm ham1 (by rfl) (rEq_mem (i := 1352) (by decide +kernel) rfl) (rEq_mem (i := 1354) (by decide +kernel) rfl) (Nat.zero_le _) dL_589 rfl (fun w2 ws2 H2 locs2 hw2 hM2 hp2 => ?_)
  have hkk := kk ws2 H2 locs2 hM2 (hp1.trans hp2)
  cases hw2
  refine lv_pop2_2 hx hb dL_592 rfl ?_
  exact lv_goto (tgt := 770) hx hb dL_593 (by decide) hkk
theorem lwc_18 (F : lwF p s m meth c b L xs D ct) (hM : lwM D ct s M ws H locs) {ax am kx km t : Nat} (hl : lwL ls b ax am (nI t)) (hL : L < 2 ^ 31) (ht : t + 3 < L) (hax : (rAd ws)[kx]? = some ax) (ham : (rAd ws)[km]? = some am) {M2 : List rEnt} (hgo : lwGoU kx km 102 194 [.inl (xs (t + 1))] M M2)
    (kk : ∀ (ws2 : va_W) (H2 : Heap) (locs2 : List Loc), lwM D ct s M2 ws2 H2 locs2 → rAd ws <+: rAd ws2 → lwW p l e s m below meth c b H2 locs2 770 ls []) : lwW p l e s m below meth c b H locs 596 ls [] := by
  obtain ⟨N, d, r, r2, M1, hd18, hr1, hr2, ⟨⟨fx, hfx⟩, -⟩, ⟨-, ⟨fm, hfm⟩⟩⟩ := hgo
  have hx := F.1
  have hb := F.2.1
  refine lv_aload_n hx hb dL_596 rfl (lv_at hl 1 rfl) ?_
  refine lw_arg (j := 1) F hM hl hL rfl (by omega) dL_597 dL_598 dL_599 dL_600 dL_601 ?_
  refine lw_callV (y := 102) (own := 8) (nm := ⟨"GoalsInAQueue", "which", "(I)I"⟩) (rest := []) (av := [.int (xs (t + 1))]) F hM hl.1 rfl hr1 hd18 hfx hax (by rfl) (rEq_mem (i := 788) (by decide +kernel) rfl) (rEq_mem (i := 790) (by decide +kernel) rfl) (Nat.zero_le _) dL_602 rfl (fun w ws1 H1 locs1 hw hM1 hp1 => ?_)
  have ham1 : (rAd ws1)[km]? = some am := by
    obtain ⟨z, hz⟩ := hp1
    rw [← hz, List.getElem?_append_left (List.getElem?_eq_some_iff.mp ham).1]
    exact ham
  cases hw
  refine lv_pop hx hb dL_605 rfl ?_
  refine lv_aload_n hx hb dL_606 rfl (lv_at hl 2 rfl) ?_
  refine lw_arg (j := 1) F hM1 hl hL rfl (by omega) dL_607 dL_608 dL_609 dL_610 dL_611 ?_
  refine lw_callV (y := 194) (own := 9) (nm := ⟨"GoalsInAQueueModel", "which", "(I)I"⟩) (rest := []) (av := [.int (xs (t + 1))]) F hM1 hl.1 rfl hr2 hd18 hfm ham1 (by rfl) (rEq_mem (i := 1364) (by decide +kernel) rfl) (rEq_mem (i := 1366) (by decide +kernel) rfl) (Nat.zero_le _) dL_612 rfl (fun w2 ws2 H2 locs2 hw2 hM2 hp2 => ?_)
  have hkk := kk ws2 H2 locs2 hM2 (hp1.trans hp2)
  cases hw2
  refine lv_pop hx hb dL_615 rfl ?_
  exact lv_goto (tgt := 770) hx hb dL_616 (by decide) hkk
theorem lwc_19 (F : lwF p s m meth c b L xs D ct) (hM : lwM D ct s M ws H locs) {ax am kx km t : Nat} (hl : lwL ls b ax am (nI t)) (hL : L < 2 ^ 31) (ht : t + 3 < L) (hax : (rAd ws)[kx]? = some ax) (ham : (rAd ws)[km]? = some am) {M2 : List rEnt} (hgo : lwGoU kx km 104 197 [.inl (xs (t + 1))] M M2)
    (kk : ∀ (ws2 : va_W) (H2 : Heap) (locs2 : List Loc), lwM D ct s M2 ws2 H2 locs2 → rAd ws <+: rAd ws2 → lwW p l e s m below meth c b H2 locs2 770 ls []) : lwW p l e s m below meth c b H locs 619 ls [] := by
  obtain ⟨N, d, r, r2, M1, hd18, hr1, hr2, ⟨⟨fx, hfx⟩, -⟩, ⟨-, ⟨fm, hfm⟩⟩⟩ := hgo
  have hx := F.1
  have hb := F.2.1
  refine lv_aload_n hx hb dL_619 rfl (lv_at hl 1 rfl) ?_
  refine lw_arg (j := 1) F hM hl hL rfl (by omega) dL_620 dL_621 dL_622 dL_623 dL_624 ?_
  refine lw_callV (y := 104) (own := 8) (nm := ⟨"GoalsInAQueue", "row", "(I)I"⟩) (rest := []) (av := [.int (xs (t + 1))]) F hM hl.1 rfl hr1 hd18 hfx hax (by rfl) (rEq_mem (i := 798) (by decide +kernel) rfl) (rEq_mem (i := 800) (by decide +kernel) rfl) (Nat.zero_le _) dL_625 rfl (fun w ws1 H1 locs1 hw hM1 hp1 => ?_)
  have ham1 : (rAd ws1)[km]? = some am := by
    obtain ⟨z, hz⟩ := hp1
    rw [← hz, List.getElem?_append_left (List.getElem?_eq_some_iff.mp ham).1]
    exact ham
  cases hw
  refine lv_pop hx hb dL_628 rfl ?_
  refine lv_aload_n hx hb dL_629 rfl (lv_at hl 2 rfl) ?_
  refine lw_arg (j := 1) F hM1 hl hL rfl (by omega) dL_630 dL_631 dL_632 dL_633 dL_634 ?_
  refine lw_callV (y := 197) (own := 9) (nm := ⟨"GoalsInAQueueModel", "row", "(I)I"⟩) (rest := []) (av := [.int (xs (t + 1))]) F hM1 hl.1 rfl hr2 hd18 hfm ham1 (by rfl) (rEq_mem (i := 1376) (by decide +kernel) rfl) (rEq_mem (i := 1378) (by decide +kernel) rfl) (Nat.zero_le _) dL_635 rfl (fun w2 ws2 H2 locs2 hw2 hM2 hp2 => ?_)
  have hkk := kk ws2 H2 locs2 hM2 (hp1.trans hp2)
  cases hw2
  refine lv_pop hx hb dL_638 rfl ?_
  exact lv_goto (tgt := 770) hx hb dL_639 (by decide) hkk
theorem lwc_20 (F : lwF p s m meth c b L xs D ct) (hM : lwM D ct s M ws H locs) {ax am kx km t : Nat} (hl : lwL ls b ax am (nI t)) (hL : L < 2 ^ 31) (ht : t + 3 < L) (hax : (rAd ws)[kx]? = some ax) (ham : (rAd ws)[km]? = some am) {M2 : List rEnt} (hgo : lwGoU kx km 105 198 [.inl (xs (t + 1))] M M2)
    (kk : ∀ (ws2 : va_W) (H2 : Heap) (locs2 : List Loc), lwM D ct s M2 ws2 H2 locs2 → rAd ws <+: rAd ws2 → lwW p l e s m below meth c b H2 locs2 770 ls []) : lwW p l e s m below meth c b H locs 642 ls [] := by
  obtain ⟨N, d, r, r2, M1, hd18, hr1, hr2, ⟨⟨fx, hfx⟩, -⟩, ⟨-, ⟨fm, hfm⟩⟩⟩ := hgo
  have hx := F.1
  have hb := F.2.1
  refine lv_aload_n hx hb dL_642 rfl (lv_at hl 1 rfl) ?_
  refine lw_arg (j := 1) F hM hl hL rfl (by omega) dL_643 dL_644 dL_645 dL_646 dL_647 ?_
  refine lw_callV (y := 105) (own := 8) (nm := ⟨"GoalsInAQueue", "judge", "(I)I"⟩) (rest := []) (av := [.int (xs (t + 1))]) F hM hl.1 rfl hr1 hd18 hfx hax (by rfl) (rEq_mem (i := 802) (by decide +kernel) rfl) (rEq_mem (i := 804) (by decide +kernel) rfl) (Nat.zero_le _) dL_648 rfl (fun w ws1 H1 locs1 hw hM1 hp1 => ?_)
  have ham1 : (rAd ws1)[km]? = some am := by
    obtain ⟨z, hz⟩ := hp1
    rw [← hz, List.getElem?_append_left (List.getElem?_eq_some_iff.mp ham).1]
    exact ham
  cases hw
  refine lv_pop hx hb dL_651 rfl ?_
  refine lv_aload_n hx hb dL_652 rfl (lv_at hl 2 rfl) ?_
  refine lw_arg (j := 1) F hM1 hl hL rfl (by omega) dL_653 dL_654 dL_655 dL_656 dL_657 ?_
  refine lw_callV (y := 198) (own := 9) (nm := ⟨"GoalsInAQueueModel", "judge", "(I)I"⟩) (rest := []) (av := [.int (xs (t + 1))]) F hM1 hl.1 rfl hr2 hd18 hfm ham1 (by rfl) (rEq_mem (i := 1380) (by decide +kernel) rfl) (rEq_mem (i := 1382) (by decide +kernel) rfl) (Nat.zero_le _) dL_658 rfl (fun w2 ws2 H2 locs2 hw2 hM2 hp2 => ?_)
  have hkk := kk ws2 H2 locs2 hM2 (hp1.trans hp2)
  cases hw2
  refine lv_pop hx hb dL_661 rfl ?_
  exact lv_goto (tgt := 770) hx hb dL_662 (by decide) hkk
theorem lwc_21 (F : lwF p s m meth c b L xs D ct) (hM : lwM D ct s M ws H locs) {ax am kx km t : Nat} (hl : lwL ls b ax am (nI t)) (hL : L < 2 ^ 31) (ht : t + 3 < L) (hax : (rAd ws)[kx]? = some ax) (ham : (rAd ws)[km]? = some am) {M2 : List rEnt} (hgo : lwGoU kx km 106 199 [] M M2)
    (kk : ∀ (ws2 : va_W) (H2 : Heap) (locs2 : List Loc), lwM D ct s M2 ws2 H2 locs2 → rAd ws <+: rAd ws2 → lwW p l e s m below meth c b H2 locs2 770 ls []) : lwW p l e s m below meth c b H locs 665 ls [] := by
  obtain ⟨N, d, r, r2, M1, hd18, hr1, hr2, ⟨⟨fx, hfx⟩, -⟩, ⟨-, ⟨fm, hfm⟩⟩⟩ := hgo
  have hx := F.1
  have hb := F.2.1
  refine lv_aload_n hx hb dL_665 rfl (lv_at hl 1 rfl) ?_
  refine lw_callV (y := 106) (own := 8) (nm := ⟨"GoalsInAQueue", "clear", "()I"⟩) (rest := []) (av := []) F hM hl.1 rfl hr1 hd18 hfx hax (by rfl) (rEq_mem (i := 806) (by decide +kernel) rfl) (rEq_mem (i := 808) (by decide +kernel) rfl) (Nat.zero_le _) dL_666 rfl (fun w ws1 H1 locs1 hw hM1 hp1 => ?_)
  have ham1 : (rAd ws1)[km]? = some am := by
    obtain ⟨z, hz⟩ := hp1
    rw [← hz, List.getElem?_append_left (List.getElem?_eq_some_iff.mp ham).1]
    exact ham
  cases hw
  refine lv_pop hx hb dL_669 rfl ?_
  refine lv_aload_n hx hb dL_670 rfl (lv_at hl 2 rfl) ?_
  refine lw_callV (y := 199) (own := 9) (nm := ⟨"GoalsInAQueueModel", "clear", "()I"⟩) (rest := []) (av := []) F hM1 hl.1 rfl hr2 hd18 hfm ham1 (by rfl) (rEq_mem (i := 1384) (by decide +kernel) rfl) (rEq_mem (i := 1386) (by decide +kernel) rfl) (Nat.zero_le _) dL_671 rfl (fun w2 ws2 H2 locs2 hw2 hM2 hp2 => ?_)
  have hkk := kk ws2 H2 locs2 hM2 (hp1.trans hp2)
  cases hw2
  refine lv_pop hx hb dL_674 rfl ?_
  exact lv_goto (tgt := 770) hx hb dL_675 (by decide) hkk
theorem lwc_22 (F : lwF p s m meth c b L xs D ct) (hM : lwM D ct s M ws H locs) {ax am kx km t : Nat} (hl : lwL ls b ax am (nI t)) (hL : L < 2 ^ 31) (ht : t + 3 < L) (hax : (rAd ws)[kx]? = some ax) (ham : (rAd ws)[km]? = some am) {M2 : List rEnt} (hgo : lwGoU kx km 107 200 [.inl (xs (t + 1)), .inl (xs (t + 2)), .inl (xs (t + 3))] M M2)
    (kk : ∀ (ws2 : va_W) (H2 : Heap) (locs2 : List Loc), lwM D ct s M2 ws2 H2 locs2 → rAd ws <+: rAd ws2 → lwW p l e s m below meth c b H2 locs2 770 ls []) : lwW p l e s m below meth c b H locs 678 ls [] := by
  obtain ⟨N, d, r, r2, M1, hd18, hr1, hr2, ⟨⟨fx, hfx⟩, -⟩, ⟨-, ⟨fm, hfm⟩⟩⟩ := hgo
  have hx := F.1
  have hb := F.2.1
  refine lv_aload_n hx hb dL_678 rfl (lv_at hl 1 rfl) ?_
  refine lw_arg (j := 1) F hM hl hL rfl (by omega) dL_679 dL_680 dL_681 dL_682 dL_683 ?_
  refine lw_arg (j := 2) F hM hl hL rfl (by omega) dL_684 dL_685 dL_686 dL_687 dL_688 ?_
  refine lw_arg (j := 3) F hM hl hL rfl (by omega) dL_689 dL_690 dL_691 dL_692 dL_693 ?_
  refine lw_callV (y := 107) (own := 8) (nm := ⟨"GoalsInAQueue", "lots", "(III)I"⟩) (rest := []) (av := [.int (xs (t + 1)), .int (xs (t + 2)), .int (xs (t + 3))]) F hM hl.1 rfl hr1 hd18 hfx hax (by rfl) (rEq_mem (i := 810) (by decide +kernel) rfl) (rEq_mem (i := 812) (by decide +kernel) rfl) (Nat.zero_le _) dL_694 rfl (fun w ws1 H1 locs1 hw hM1 hp1 => ?_)
  have ham1 : (rAd ws1)[km]? = some am := by
    obtain ⟨z, hz⟩ := hp1
    rw [← hz, List.getElem?_append_left (List.getElem?_eq_some_iff.mp ham).1]
    exact ham
  cases hw
  refine lv_pop hx hb dL_697 rfl ?_
  refine lv_aload_n hx hb dL_698 rfl (lv_at hl 2 rfl) ?_
  refine lw_arg (j := 1) F hM1 hl hL rfl (by omega) dL_699 dL_700 dL_701 dL_702 dL_703 ?_
  refine lw_arg (j := 2) F hM1 hl hL rfl (by omega) dL_704 dL_705 dL_706 dL_707 dL_708 ?_
  refine lw_arg (j := 3) F hM1 hl hL rfl (by omega) dL_709 dL_710 dL_711 dL_712 dL_713 ?_
  refine lw_callV (y := 200) (own := 9) (nm := ⟨"GoalsInAQueueModel", "lots", "(III)I"⟩) (rest := []) (av := [.int (xs (t + 1)), .int (xs (t + 2)), .int (xs (t + 3))]) F hM1 hl.1 rfl hr2 hd18 hfm ham1 (by rfl) (rEq_mem (i := 1388) (by decide +kernel) rfl) (rEq_mem (i := 1390) (by decide +kernel) rfl) (Nat.zero_le _) dL_714 rfl (fun w2 ws2 H2 locs2 hw2 hM2 hp2 => ?_)
  have hkk := kk ws2 H2 locs2 hM2 (hp1.trans hp2)
  cases hw2
  refine lv_pop hx hb dL_717 rfl ?_
  exact lv_goto (tgt := 770) hx hb dL_718 (by decide) hkk
theorem lwc_23 (F : lwF p s m meth c b L xs D ct) (hM : lwM D ct s M ws H locs) {ax am kx km t : Nat} (hl : lwL ls b ax am (nI t)) (hL : L < 2 ^ 31) (ht : t + 3 < L) (hax : (rAd ws)[kx]? = some ax) (ham : (rAd ws)[km]? = some am) {M2 : List rEnt} (hgo : lwGoU kx km 110 135 [] M M2)
    (kk : ∀ (ws2 : va_W) (H2 : Heap) (locs2 : List Loc), lwM D ct s M2 ws2 H2 locs2 → rAd ws <+: rAd ws2 → lwW p l e s m below meth c b H2 locs2 770 ls []) : lwW p l e s m below meth c b H locs 721 ls [] := by
  obtain ⟨N, d, r, r2, M1, hd18, hr1, hr2, ⟨⟨fx, hfx⟩, -⟩, ⟨-, ⟨fm, hfm⟩⟩⟩ := hgo
  have hx := F.1
  have hb := F.2.1
  refine lv_aload_n hx hb dL_721 rfl (lv_at hl 1 rfl) ?_
  refine lw_callV (y := 110) (own := 8) (nm := ⟨"GoalsInAQueue", "image", "()I"⟩) (rest := []) (av := []) F hM hl.1 rfl hr1 hd18 hfx hax (by rfl) (rEq_mem (i := 841) (by decide +kernel) rfl) (rEq_mem (i := 843) (by decide +kernel) rfl) (Nat.zero_le _) dL_722 rfl (fun w ws1 H1 locs1 hw hM1 hp1 => ?_)
  have ham1 : (rAd ws1)[km]? = some am := by
    obtain ⟨z, hz⟩ := hp1
    rw [← hz, List.getElem?_append_left (List.getElem?_eq_some_iff.mp ham).1]
    exact ham
  cases hw
  refine lv_pop hx hb dL_725 rfl ?_
  refine lv_aload_n hx hb dL_726 rfl (lv_at hl 2 rfl) ?_
  refine lw_callV (y := 135) (own := 9) (nm := ⟨"GoalsInAQueueModel", "image", "()I"⟩) (rest := []) (av := []) F hM1 hl.1 rfl hr2 hd18 hfm ham1 (by rfl) (rEq_mem (i := 1131) (by decide +kernel) rfl) (rEq_mem (i := 1133) (by decide +kernel) rfl) (Nat.zero_le _) dL_727 rfl (fun w2 ws2 H2 locs2 hw2 hM2 hp2 => ?_)
  have hkk := kk ws2 H2 locs2 hM2 (hp1.trans hp2)
  cases hw2
  refine lv_pop hx hb dL_730 rfl ?_
  exact lv_goto (tgt := 770) hx hb dL_731 (by decide) hkk
theorem lwc_24 (F : lwF p s m meth c b L xs D ct) (hM : lwM D ct s M ws H locs) {ax am kx km t : Nat} (hl : lwL ls b ax am (nI t)) (hL : L < 2 ^ 31) (ht : t + 3 < L) (hax : (rAd ws)[kx]? = some ax) (ham : (rAd ws)[km]? = some am) {M2 : List rEnt} (hgo : lwGoU kx km 111 136 [] M M2)
    (kk : ∀ (ws2 : va_W) (H2 : Heap) (locs2 : List Loc), lwM D ct s M2 ws2 H2 locs2 → rAd ws <+: rAd ws2 → lwW p l e s m below meth c b H2 locs2 770 ls []) : lwW p l e s m below meth c b H locs 734 ls [] := by
  obtain ⟨N, d, r, r2, M1, hd18, hr1, hr2, ⟨⟨fx, hfx⟩, -⟩, ⟨-, ⟨fm, hfm⟩⟩⟩ := hgo
  have hx := F.1
  have hb := F.2.1
  refine lv_aload_n hx hb dL_734 rfl (lv_at hl 1 rfl) ?_
  refine lw_callV (y := 111) (own := 8) (nm := ⟨"GoalsInAQueue", "on", "()I"⟩) (rest := []) (av := []) F hM hl.1 rfl hr1 hd18 hfx hax (by rfl) (rEq_mem (i := 854) (by decide +kernel) rfl) (rEq_mem (i := 856) (by decide +kernel) rfl) (Nat.zero_le _) dL_735 rfl (fun w ws1 H1 locs1 hw hM1 hp1 => ?_)
  have ham1 : (rAd ws1)[km]? = some am := by
    obtain ⟨z, hz⟩ := hp1
    rw [← hz, List.getElem?_append_left (List.getElem?_eq_some_iff.mp ham).1]
    exact ham
  cases hw
  refine lv_pop hx hb dL_738 rfl ?_
  refine lv_aload_n hx hb dL_739 rfl (lv_at hl 2 rfl) ?_
  refine lw_callV (y := 136) (own := 9) (nm := ⟨"GoalsInAQueueModel", "on", "()I"⟩) (rest := []) (av := []) F hM1 hl.1 rfl hr2 hd18 hfm ham1 (by rfl) (rEq_mem (i := 1135) (by decide +kernel) rfl) (rEq_mem (i := 1137) (by decide +kernel) rfl) (Nat.zero_le _) dL_740 rfl (fun w2 ws2 H2 locs2 hw2 hM2 hp2 => ?_)
  have hkk := kk ws2 H2 locs2 hM2 (hp1.trans hp2)
  cases hw2
  refine lv_pop hx hb dL_743 rfl ?_
  exact lv_goto (tgt := 770) hx hb dL_744 (by decide) hkk
theorem lwc_25 (F : lwF p s m meth c b L xs D ct) (hM : lwM D ct s M ws H locs) {ax am kx km t : Nat} (hl : lwL ls b ax am (nI t)) (hL : L < 2 ^ 31) (ht : t + 3 < L) (hax : (rAd ws)[kx]? = some ax) (ham : (rAd ws)[km]? = some am) {M2 : List rEnt} (hgo : lwGoU kx km 112 206 [.inl (xs (t + 1))] M M2)
    (kk : ∀ (ws2 : va_W) (H2 : Heap) (locs2 : List Loc), lwM D ct s M2 ws2 H2 locs2 → rAd ws <+: rAd ws2 → lwW p l e s m below meth c b H2 locs2 770 ls []) : lwW p l e s m below meth c b H locs 747 ls [] := by
  obtain ⟨N, d, r, r2, M1, hd18, hr1, hr2, ⟨⟨fx, hfx⟩, -⟩, ⟨-, ⟨fm, hfm⟩⟩⟩ := hgo
  have hx := F.1
  have hb := F.2.1
  refine lv_aload_n hx hb dL_747 rfl (lv_at hl 1 rfl) ?_
  refine lw_arg (j := 1) F hM hl hL rfl (by omega) dL_748 dL_749 dL_750 dL_751 dL_752 ?_
  refine lw_callV (y := 112) (own := 8) (nm := ⟨"GoalsInAQueue", "count", "(I)I"⟩) (rest := []) (av := [.int (xs (t + 1))]) F hM hl.1 rfl hr1 hd18 hfx hax (by rfl) (rEq_mem (i := 858) (by decide +kernel) rfl) (rEq_mem (i := 860) (by decide +kernel) rfl) (Nat.zero_le _) dL_753 rfl (fun w ws1 H1 locs1 hw hM1 hp1 => ?_)
  have ham1 : (rAd ws1)[km]? = some am := by
    obtain ⟨z, hz⟩ := hp1
    rw [← hz, List.getElem?_append_left (List.getElem?_eq_some_iff.mp ham).1]
    exact ham
  cases hw
  refine lv_pop hx hb dL_756 rfl ?_
  refine lv_aload_n hx hb dL_757 rfl (lv_at hl 2 rfl) ?_
  refine lw_arg (j := 1) F hM1 hl hL rfl (by omega) dL_758 dL_759 dL_760 dL_761 dL_762 ?_
  refine lw_callV (y := 206) (own := 9) (nm := ⟨"GoalsInAQueueModel", "count", "(I)I"⟩) (rest := []) (av := [.int (xs (t + 1))]) F hM1 hl.1 rfl hr2 hd18 hfm ham1 (by rfl) (rEq_mem (i := 1415) (by decide +kernel) rfl) (rEq_mem (i := 1417) (by decide +kernel) rfl) (Nat.zero_le _) dL_763 rfl (fun w2 ws2 H2 locs2 hw2 hM2 hp2 => ?_)
  have hkk := kk ws2 H2 locs2 hM2 (hp1.trans hp2)
  cases hw2
  refine lv_pop hx hb dL_766 rfl ?_
  exact lv_goto (tgt := 770) hx hb dL_767 (by decide) hkk
end LWC
