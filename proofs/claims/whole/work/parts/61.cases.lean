/-! the cases of the law -/
theorem lhd_X11_court : yX11_court.cls ≠ "java/lang/invoke/MethodHandle" ∧ yX11_court.cls ≠ "java/lang/invoke/VarHandle" ∧ (parseMethodDescriptor yX11_court.desc).map (fun d => d.parameters.length) = some 1 := by decide +kernel
theorem lhd_X12_court : yX12_court.cls ≠ "java/lang/invoke/MethodHandle" ∧ yX12_court.cls ≠ "java/lang/invoke/VarHandle" ∧ (parseMethodDescriptor yX12_court.desc).map (fun d => d.parameters.length) = some 1 := by decide +kernel
theorem law_0 {G : Gb} {X : CX} {l : Launch} {b n i : Nat} {xs : Nat → Int32} {σ μ : Sto} {L : Lng} (hX : OL G X l b n xs) (hi : i + 5 < n) (h : RS σ μ L) (hgo : ∀ σ' μ' L', RS σ' μ' L' → ZL G X (cmb σ' μ', L') (LSt G b i) [] 1048) : ZL G X (cmb σ μ, L) (LSt G b i) [] 184 := by
  obtain ⟨r, s', m', hx, hy, hr⟩ := op_court h (xs (i + 1))
  refine y_aload (k := 1) (n' := 1) (pc := 184) hX dL_law_184 rfl rfl ?_
  refine y_arg (j := 1) (pc := 185) hX hi (by omega) dL_law_185 dL_law_186 dL_law_187 dL_law_188 dL_law_189 rfl ?_
  refine y_call (E := EC μ L) (σ := σ) (pc := 190) (As := [.int (xs (i + 1))]) (stk := []) hX rc_0 ⟨q_281, q_284, q_1⟩ q_282 q_283 lhd_X11_court ⟨Nat.le_of_ble_eq_true rfl, Nat.le_of_ble_eq_true rfl⟩ (r' := (r, s')) (by rw [← hx]; exact c_T_court hX.2.2.2.2.2.2.2.2.1 σ (xs (i + 1))) rfl rfl (Nat.le_of_ble_eq_true rfl) dL_law_190 ?_
  refine y_aload (k := 2) (n' := 2) (pc := 193) hX dL_law_193 rfl rfl ?_
  refine y_arg (j := 1) (pc := 194) hX hi (by omega) dL_law_194 dL_law_195 dL_law_196 dL_law_197 dL_law_198 rfl ?_
  refine y_call (E := EM s' L) (σ := μ) (pc := 199) (As := [.int (xs (i + 1))]) (stk := [.int r]) hX rc_17 ⟨q_921, q_924, q_13⟩ q_922 q_923 lhd_X12_court ⟨Nat.le_of_ble_eq_true rfl, Nat.le_of_ble_eq_true rfl⟩ (r' := (r, m')) (by rw [← hy]; exact c_m_court hX.2.2.2.2.2.2.2.2.1 μ (xs (i + 1))) rfl rfl (Nat.le_of_ble_eq_true rfl) dL_law_199 ?_
  exact y_icmp (pc := 202) hX dL_law_202 rfl (hgo s' m' L hr)
theorem lhd_X11_heir : yX11_heir.cls ≠ "java/lang/invoke/MethodHandle" ∧ yX11_heir.cls ≠ "java/lang/invoke/VarHandle" ∧ (parseMethodDescriptor yX11_heir.desc).map (fun d => d.parameters.length) = some 4 := by decide +kernel
theorem lhd_X12_heir : yX12_heir.cls ≠ "java/lang/invoke/MethodHandle" ∧ yX12_heir.cls ≠ "java/lang/invoke/VarHandle" ∧ (parseMethodDescriptor yX12_heir.desc).map (fun d => d.parameters.length) = some 4 := by decide +kernel
theorem law_1 {G : Gb} {X : CX} {l : Launch} {b n i : Nat} {xs : Nat → Int32} {σ μ : Sto} {L : Lng} (hX : OL G X l b n xs) (hi : i + 5 < n) (h : RS σ μ L) (hgo : ∀ σ' μ' L', RS σ' μ' L' → ZL G X (cmb σ' μ', L') (LSt G b i) [] 1048) : ZL G X (cmb σ μ, L) (LSt G b i) [] 207 := by
  obtain ⟨r, s', m', hx, hy, hr⟩ := op_heir h (xs (i + 1)) (xs (i + 2)) (xs (i + 3)) (xs (i + 4))
  refine y_aload (k := 1) (n' := 1) (pc := 207) hX dL_law_207 rfl rfl ?_
  refine y_arg (j := 1) (pc := 208) hX hi (by omega) dL_law_208 dL_law_209 dL_law_210 dL_law_211 dL_law_212 rfl ?_
  refine y_arg (j := 2) (pc := 213) hX hi (by omega) dL_law_213 dL_law_214 dL_law_215 dL_law_216 dL_law_217 rfl ?_
  refine y_arg (j := 3) (pc := 218) hX hi (by omega) dL_law_218 dL_law_219 dL_law_220 dL_law_221 dL_law_222 rfl ?_
  refine y_arg (j := 4) (pc := 223) hX hi (by omega) dL_law_223 dL_law_224 dL_law_225 dL_law_226 dL_law_227 rfl ?_
  refine y_call (E := EC μ L) (σ := σ) (pc := 228) (As := [.int (xs (i + 1)), .int (xs (i + 2)), .int (xs (i + 3)), .int (xs (i + 4))]) (stk := []) hX rc_0 ⟨q_300, q_303, q_1⟩ q_301 q_302 lhd_X11_heir ⟨Nat.le_of_ble_eq_true rfl, Nat.le_of_ble_eq_true rfl⟩ (r' := (r, s')) (by rw [← hx]; exact c_T_heir hX.2.2.2.2.2.2.2.2.1 σ (xs (i + 1)) (xs (i + 2)) (xs (i + 3)) (xs (i + 4))) rfl rfl (Nat.le_of_ble_eq_true rfl) dL_law_228 ?_
  refine y_aload (k := 2) (n' := 2) (pc := 231) hX dL_law_231 rfl rfl ?_
  refine y_arg (j := 1) (pc := 232) hX hi (by omega) dL_law_232 dL_law_233 dL_law_234 dL_law_235 dL_law_236 rfl ?_
  refine y_arg (j := 2) (pc := 237) hX hi (by omega) dL_law_237 dL_law_238 dL_law_239 dL_law_240 dL_law_241 rfl ?_
  refine y_arg (j := 3) (pc := 242) hX hi (by omega) dL_law_242 dL_law_243 dL_law_244 dL_law_245 dL_law_246 rfl ?_
  refine y_arg (j := 4) (pc := 247) hX hi (by omega) dL_law_247 dL_law_248 dL_law_249 dL_law_250 dL_law_251 rfl ?_
  refine y_call (E := EM s' L) (σ := μ) (pc := 252) (As := [.int (xs (i + 1)), .int (xs (i + 2)), .int (xs (i + 3)), .int (xs (i + 4))]) (stk := [.int r]) hX rc_17 ⟨q_932, q_935, q_13⟩ q_933 q_934 lhd_X12_heir ⟨Nat.le_of_ble_eq_true rfl, Nat.le_of_ble_eq_true rfl⟩ (r' := (r, m')) (by rw [← hy]; exact c_m_heir hX.2.2.2.2.2.2.2.2.1 μ (xs (i + 1)) (xs (i + 2)) (xs (i + 3)) (xs (i + 4))) rfl rfl (Nat.le_of_ble_eq_true rfl) dL_law_252 ?_
  exact y_icmp (pc := 255) hX dL_law_255 rfl (hgo s' m' L hr)
theorem lhd_X11_type : yX11_type.cls ≠ "java/lang/invoke/MethodHandle" ∧ yX11_type.cls ≠ "java/lang/invoke/VarHandle" ∧ (parseMethodDescriptor yX11_type.desc).map (fun d => d.parameters.length) = some 1 := by decide +kernel
theorem lhd_X12_type : yX12_type.cls ≠ "java/lang/invoke/MethodHandle" ∧ yX12_type.cls ≠ "java/lang/invoke/VarHandle" ∧ (parseMethodDescriptor yX12_type.desc).map (fun d => d.parameters.length) = some 1 := by decide +kernel
theorem law_2 {G : Gb} {X : CX} {l : Launch} {b n i : Nat} {xs : Nat → Int32} {σ μ : Sto} {L : Lng} (hX : OL G X l b n xs) (hi : i + 5 < n) (h : RS σ μ L) (hgo : ∀ σ' μ' L', RS σ' μ' L' → ZL G X (cmb σ' μ', L') (LSt G b i) [] 1048) : ZL G X (cmb σ μ, L) (LSt G b i) [] 260 := by
  obtain ⟨r, s', m', hx, hy, hr⟩ := op_type h (xs (i + 1))
  refine y_aload (k := 1) (n' := 1) (pc := 260) hX dL_law_260 rfl rfl ?_
  refine y_arg (j := 1) (pc := 261) hX hi (by omega) dL_law_261 dL_law_262 dL_law_263 dL_law_264 dL_law_265 rfl ?_
  refine y_call (E := EC μ L) (σ := σ) (pc := 266) (As := [.int (xs (i + 1))]) (stk := []) hX rc_0 ⟨q_316, q_319, q_1⟩ q_317 q_318 lhd_X11_type ⟨Nat.le_of_ble_eq_true rfl, Nat.le_of_ble_eq_true rfl⟩ (r' := (r, s')) (by rw [← hx]; exact c_T_type hX.2.2.2.2.2.2.2.2.1 σ (xs (i + 1))) rfl rfl (Nat.le_of_ble_eq_true rfl) dL_law_266 ?_
  refine y_aload (k := 2) (n' := 2) (pc := 269) hX dL_law_269 rfl rfl ?_
  refine y_arg (j := 1) (pc := 270) hX hi (by omega) dL_law_270 dL_law_271 dL_law_272 dL_law_273 dL_law_274 rfl ?_
  refine y_call (E := EM s' L) (σ := μ) (pc := 275) (As := [.int (xs (i + 1))]) (stk := [.int r]) hX rc_17 ⟨q_944, q_947, q_13⟩ q_945 q_946 lhd_X12_type ⟨Nat.le_of_ble_eq_true rfl, Nat.le_of_ble_eq_true rfl⟩ (r' := (r, m')) (by rw [← hy]; exact c_m_type hX.2.2.2.2.2.2.2.2.1 μ (xs (i + 1))) rfl rfl (Nat.le_of_ble_eq_true rfl) dL_law_275 ?_
  exact y_icmp (pc := 278) hX dL_law_278 rfl (hgo s' m' L hr)
theorem lhd_X11_clear : yX11_clear.cls ≠ "java/lang/invoke/MethodHandle" ∧ yX11_clear.cls ≠ "java/lang/invoke/VarHandle" ∧ (parseMethodDescriptor yX11_clear.desc).map (fun d => d.parameters.length) = some 0 := by decide +kernel
theorem lhd_X12_clear : yX12_clear.cls ≠ "java/lang/invoke/MethodHandle" ∧ yX12_clear.cls ≠ "java/lang/invoke/VarHandle" ∧ (parseMethodDescriptor yX12_clear.desc).map (fun d => d.parameters.length) = some 0 := by decide +kernel
theorem law_3 {G : Gb} {X : CX} {l : Launch} {b n i : Nat} {xs : Nat → Int32} {σ μ : Sto} {L : Lng} (hX : OL G X l b n xs) (hi : i + 5 < n) (h : RS σ μ L) (hgo : ∀ σ' μ' L', RS σ' μ' L' → ZL G X (cmb σ' μ', L') (LSt G b i) [] 1048) : ZL G X (cmb σ μ, L) (LSt G b i) [] 283 := by
  obtain ⟨r, s', m', hx, hy, hr⟩ := op_clear h 
  refine y_aload (k := 1) (n' := 1) (pc := 283) hX dL_law_283 rfl rfl ?_
  refine y_call (E := EC μ L) (σ := σ) (pc := 284) (As := []) (stk := []) hX rc_0 ⟨q_324, q_327, q_1⟩ q_325 q_326 lhd_X11_clear ⟨Nat.le_of_ble_eq_true rfl, Nat.le_of_ble_eq_true rfl⟩ (r' := (r, s')) (by rw [← hx]; exact c_T_clear hX.2.2.2.2.2.2.2.2.1 σ ) rfl rfl (Nat.le_of_ble_eq_true rfl) dL_law_284 ?_
  refine y_aload (k := 2) (n' := 2) (pc := 287) hX dL_law_287 rfl rfl ?_
  refine y_call (E := EM s' L) (σ := μ) (pc := 288) (As := []) (stk := [.int r]) hX rc_17 ⟨q_948, q_951, q_13⟩ q_949 q_950 lhd_X12_clear ⟨Nat.le_of_ble_eq_true rfl, Nat.le_of_ble_eq_true rfl⟩ (r' := (r, m')) (by rw [← hy]; exact c_m_clear hX.2.2.2.2.2.2.2.2.1 μ ) rfl rfl (Nat.le_of_ble_eq_true rfl) dL_law_288 ?_
  exact y_icmp (pc := 291) hX dL_law_291 rfl (hgo s' m' L hr)
theorem lhd_X11_read : yX11_read.cls ≠ "java/lang/invoke/MethodHandle" ∧ yX11_read.cls ≠ "java/lang/invoke/VarHandle" ∧ (parseMethodDescriptor yX11_read.desc).map (fun d => d.parameters.length) = some 0 := by decide +kernel
theorem lhd_X12_read : yX12_read.cls ≠ "java/lang/invoke/MethodHandle" ∧ yX12_read.cls ≠ "java/lang/invoke/VarHandle" ∧ (parseMethodDescriptor yX12_read.desc).map (fun d => d.parameters.length) = some 0 := by decide +kernel
theorem law_4 {G : Gb} {X : CX} {l : Launch} {b n i : Nat} {xs : Nat → Int32} {σ μ : Sto} {L : Lng} (hX : OL G X l b n xs) (hi : i + 5 < n) (h : RS σ μ L) (hgo : ∀ σ' μ' L', RS σ' μ' L' → ZL G X (cmb σ' μ', L') (LSt G b i) [] 1048) : ZL G X (cmb σ μ, L) (LSt G b i) [] 296 := by
  obtain ⟨r, s', m', hx, hy, hr⟩ := op_read h 
  refine y_aload (k := 1) (n' := 1) (pc := 296) hX dL_law_296 rfl rfl ?_
  refine y_call (E := EC μ L) (σ := σ) (pc := 297) (As := []) (stk := []) hX rc_0 ⟨q_328, q_331, q_1⟩ q_329 q_330 lhd_X11_read ⟨Nat.le_of_ble_eq_true rfl, Nat.le_of_ble_eq_true rfl⟩ (r' := (r, s')) (by rw [← hx]; exact c_T_read hX.2.2.2.2.2.2.2.2.1 σ ) rfl rfl (Nat.le_of_ble_eq_true rfl) dL_law_297 ?_
  refine y_aload (k := 2) (n' := 2) (pc := 300) hX dL_law_300 rfl rfl ?_
  refine y_call (E := EM s' L) (σ := μ) (pc := 301) (As := []) (stk := [.int r]) hX rc_17 ⟨q_952, q_955, q_13⟩ q_953 q_954 lhd_X12_read ⟨Nat.le_of_ble_eq_true rfl, Nat.le_of_ble_eq_true rfl⟩ (r' := (r, m')) (by rw [← hy]; exact c_m_read hX.2.2.2.2.2.2.2.2.1 μ ) rfl rfl (Nat.le_of_ble_eq_true rfl) dL_law_301 ?_
  exact y_icmp (pc := 304) hX dL_law_304 rfl (hgo s' m' L hr)
theorem lhd_X11_pair : yX11_pair.cls ≠ "java/lang/invoke/MethodHandle" ∧ yX11_pair.cls ≠ "java/lang/invoke/VarHandle" ∧ (parseMethodDescriptor yX11_pair.desc).map (fun d => d.parameters.length) = some 2 := by decide +kernel
theorem lhd_X12_pair : yX12_pair.cls ≠ "java/lang/invoke/MethodHandle" ∧ yX12_pair.cls ≠ "java/lang/invoke/VarHandle" ∧ (parseMethodDescriptor yX12_pair.desc).map (fun d => d.parameters.length) = some 2 := by decide +kernel
theorem law_5 {G : Gb} {X : CX} {l : Launch} {b n i : Nat} {xs : Nat → Int32} {σ μ : Sto} {L : Lng} (hX : OL G X l b n xs) (hi : i + 5 < n) (h : RS σ μ L) (hgo : ∀ σ' μ' L', RS σ' μ' L' → ZL G X (cmb σ' μ', L') (LSt G b i) [] 1048) : ZL G X (cmb σ μ, L) (LSt G b i) [] 309 := by
  obtain ⟨r, s', m', hx, hy, hr⟩ := op_pair h (xs (i + 1)) (xs (i + 2))
  refine y_aload (k := 1) (n' := 1) (pc := 309) hX dL_law_309 rfl rfl ?_
  refine y_arg (j := 1) (pc := 310) hX hi (by omega) dL_law_310 dL_law_311 dL_law_312 dL_law_313 dL_law_314 rfl ?_
  refine y_arg (j := 2) (pc := 315) hX hi (by omega) dL_law_315 dL_law_316 dL_law_317 dL_law_318 dL_law_319 rfl ?_
  refine y_call (E := EC μ L) (σ := σ) (pc := 320) (As := [.int (xs (i + 1)), .int (xs (i + 2))]) (stk := []) hX rc_0 ⟨q_457, q_460, q_1⟩ q_458 q_459 lhd_X11_pair ⟨Nat.le_of_ble_eq_true rfl, Nat.le_of_ble_eq_true rfl⟩ (r' := (r, s')) (by rw [← hx]; exact c_T_pair hX.2.2.2.2.2.2.2.2.1 σ (xs (i + 1)) (xs (i + 2))) rfl rfl (Nat.le_of_ble_eq_true rfl) dL_law_320 ?_
  refine y_aload (k := 2) (n' := 2) (pc := 323) hX dL_law_323 rfl rfl ?_
  refine y_arg (j := 1) (pc := 324) hX hi (by omega) dL_law_324 dL_law_325 dL_law_326 dL_law_327 dL_law_328 rfl ?_
  refine y_arg (j := 2) (pc := 329) hX hi (by omega) dL_law_329 dL_law_330 dL_law_331 dL_law_332 dL_law_333 rfl ?_
  refine y_call (E := EM s' L) (σ := μ) (pc := 334) (As := [.int (xs (i + 1)), .int (xs (i + 2))]) (stk := [.int r]) hX rc_17 ⟨q_1018, q_1021, q_13⟩ q_1019 q_1020 lhd_X12_pair ⟨Nat.le_of_ble_eq_true rfl, Nat.le_of_ble_eq_true rfl⟩ (r' := (r, m')) (by rw [← hy]; exact c_m_pair hX.2.2.2.2.2.2.2.2.1 μ (xs (i + 1)) (xs (i + 2))) rfl rfl (Nat.le_of_ble_eq_true rfl) dL_law_334 ?_
  exact y_icmp (pc := 337) hX dL_law_337 rfl (hgo s' m' L hr)
theorem lhd_X11_ask : yX11_ask.cls ≠ "java/lang/invoke/MethodHandle" ∧ yX11_ask.cls ≠ "java/lang/invoke/VarHandle" ∧ (parseMethodDescriptor yX11_ask.desc).map (fun d => d.parameters.length) = some 1 := by decide +kernel
theorem lhd_X12_ask : yX12_ask.cls ≠ "java/lang/invoke/MethodHandle" ∧ yX12_ask.cls ≠ "java/lang/invoke/VarHandle" ∧ (parseMethodDescriptor yX12_ask.desc).map (fun d => d.parameters.length) = some 1 := by decide +kernel
theorem law_6 {G : Gb} {X : CX} {l : Launch} {b n i : Nat} {xs : Nat → Int32} {σ μ : Sto} {L : Lng} (hX : OL G X l b n xs) (hi : i + 5 < n) (h : RS σ μ L) (hgo : ∀ σ' μ' L', RS σ' μ' L' → ZL G X (cmb σ' μ', L') (LSt G b i) [] 1048) : ZL G X (cmb σ μ, L) (LSt G b i) [] 342 := by
  obtain ⟨r, s', m', hx, hy, hr⟩ := op_ask h (xs (i + 1))
  refine y_aload (k := 1) (n' := 1) (pc := 342) hX dL_law_342 rfl rfl ?_
  refine y_arg (j := 1) (pc := 343) hX hi (by omega) dL_law_343 dL_law_344 dL_law_345 dL_law_346 dL_law_347 rfl ?_
  refine y_call (E := EC μ L) (σ := σ) (pc := 348) (As := [.int (xs (i + 1))]) (stk := []) hX rc_0 ⟨q_477, q_480, q_1⟩ q_478 q_479 lhd_X11_ask ⟨Nat.le_of_ble_eq_true rfl, Nat.le_of_ble_eq_true rfl⟩ (r' := (r, s')) (by rw [← hx]; exact c_T_ask hX.2.2.2.2.2.2.2.2.1 σ (xs (i + 1))) rfl rfl (Nat.le_of_ble_eq_true rfl) dL_law_348 ?_
  refine y_aload (k := 2) (n' := 2) (pc := 351) hX dL_law_351 rfl rfl ?_
  refine y_arg (j := 1) (pc := 352) hX hi (by omega) dL_law_352 dL_law_353 dL_law_354 dL_law_355 dL_law_356 rfl ?_
  refine y_call (E := EM s' L) (σ := μ) (pc := 357) (As := [.int (xs (i + 1))]) (stk := [.int r]) hX rc_17 ⟨q_1034, q_1037, q_13⟩ q_1035 q_1036 lhd_X12_ask ⟨Nat.le_of_ble_eq_true rfl, Nat.le_of_ble_eq_true rfl⟩ (r' := (r, m')) (by rw [← hy]; exact c_m_ask hX.2.2.2.2.2.2.2.2.1 μ (xs (i + 1))) rfl rfl (Nat.le_of_ble_eq_true rfl) dL_law_357 ?_
  exact y_icmp (pc := 360) hX dL_law_360 rfl (hgo s' m' L hr)
theorem lhd_X11_day : yX11_day.cls ≠ "java/lang/invoke/MethodHandle" ∧ yX11_day.cls ≠ "java/lang/invoke/VarHandle" ∧ (parseMethodDescriptor yX11_day.desc).map (fun d => d.parameters.length) = some 1 := by decide +kernel
theorem lhd_X12_day : yX12_day.cls ≠ "java/lang/invoke/MethodHandle" ∧ yX12_day.cls ≠ "java/lang/invoke/VarHandle" ∧ (parseMethodDescriptor yX12_day.desc).map (fun d => d.parameters.length) = some 1 := by decide +kernel
theorem law_7 {G : Gb} {X : CX} {l : Launch} {b n i : Nat} {xs : Nat → Int32} {σ μ : Sto} {L : Lng} (hX : OL G X l b n xs) (hi : i + 5 < n) (h : RS σ μ L) (hgo : ∀ σ' μ' L', RS σ' μ' L' → ZL G X (cmb σ' μ', L') (LSt G b i) [] 1048) : ZL G X (cmb σ μ, L) (LSt G b i) [] 365 := by
  obtain ⟨r, s', m', hx, hy, hr⟩ := op_day h (xs (i + 1))
  refine y_aload (k := 1) (n' := 1) (pc := 365) hX dL_law_365 rfl rfl ?_
  refine y_arg (j := 1) (pc := 366) hX hi (by omega) dL_law_366 dL_law_367 dL_law_368 dL_law_369 dL_law_370 rfl ?_
  refine y_call (E := EC μ L) (σ := σ) (pc := 371) (As := [.int (xs (i + 1))]) (stk := []) hX rc_0 ⟨q_547, q_550, q_1⟩ q_548 q_549 lhd_X11_day ⟨Nat.le_of_ble_eq_true rfl, Nat.le_of_ble_eq_true rfl⟩ (r' := (r, s')) (by rw [← hx]; exact c_T_day hX.2.2.2.2.2.2.2.2.1 σ (xs (i + 1))) rfl rfl (Nat.le_of_ble_eq_true rfl) dL_law_371 ?_
  refine y_aload (k := 2) (n' := 2) (pc := 374) hX dL_law_374 rfl rfl ?_
  refine y_arg (j := 1) (pc := 375) hX hi (by omega) dL_law_375 dL_law_376 dL_law_377 dL_law_378 dL_law_379 rfl ?_
  refine y_call (E := EM s' L) (σ := μ) (pc := 380) (As := [.int (xs (i + 1))]) (stk := [.int r]) hX rc_17 ⟨q_1074, q_1077, q_13⟩ q_1075 q_1076 lhd_X12_day ⟨Nat.le_of_ble_eq_true rfl, Nat.le_of_ble_eq_true rfl⟩ (r' := (r, m')) (by rw [← hy]; exact c_m_day hX.2.2.2.2.2.2.2.2.1 μ (xs (i + 1))) rfl rfl (Nat.le_of_ble_eq_true rfl) dL_law_380 ?_
  exact y_icmp (pc := 383) hX dL_law_383 rfl (hgo s' m' L hr)
theorem lhd_X11_feed : yX11_feed.cls ≠ "java/lang/invoke/MethodHandle" ∧ yX11_feed.cls ≠ "java/lang/invoke/VarHandle" ∧ (parseMethodDescriptor yX11_feed.desc).map (fun d => d.parameters.length) = some 1 := by decide +kernel
theorem lhd_X12_feed : yX12_feed.cls ≠ "java/lang/invoke/MethodHandle" ∧ yX12_feed.cls ≠ "java/lang/invoke/VarHandle" ∧ (parseMethodDescriptor yX12_feed.desc).map (fun d => d.parameters.length) = some 1 := by decide +kernel
theorem law_8 {G : Gb} {X : CX} {l : Launch} {b n i : Nat} {xs : Nat → Int32} {σ μ : Sto} {L : Lng} (hX : OL G X l b n xs) (hi : i + 5 < n) (h : RS σ μ L) (hgo : ∀ σ' μ' L', RS σ' μ' L' → ZL G X (cmb σ' μ', L') (LSt G b i) [] 1048) : ZL G X (cmb σ μ, L) (LSt G b i) [] 388 := by
  obtain ⟨r, s', m', hx, hy, hr⟩ := op_feed h (xs (i + 1))
  refine y_aload (k := 1) (n' := 1) (pc := 388) hX dL_law_388 rfl rfl ?_
  refine y_arg (j := 1) (pc := 389) hX hi (by omega) dL_law_389 dL_law_390 dL_law_391 dL_law_392 dL_law_393 rfl ?_
  refine y_call (E := EC μ L) (σ := σ) (pc := 394) (As := [.int (xs (i + 1))]) (stk := []) hX rc_0 ⟨q_595, q_598, q_1⟩ q_596 q_597 lhd_X11_feed ⟨Nat.le_of_ble_eq_true rfl, Nat.le_of_ble_eq_true rfl⟩ (r' := (r, s')) (by rw [← hx]; exact c_T_feed hX.2.2.2.2.2.2.2.2.1 σ (xs (i + 1))) rfl rfl (Nat.le_of_ble_eq_true rfl) dL_law_394 ?_
  refine y_aload (k := 2) (n' := 2) (pc := 397) hX dL_law_397 rfl rfl ?_
  refine y_arg (j := 1) (pc := 398) hX hi (by omega) dL_law_398 dL_law_399 dL_law_400 dL_law_401 dL_law_402 rfl ?_
  refine y_call (E := EM s' L) (σ := μ) (pc := 403) (As := [.int (xs (i + 1))]) (stk := [.int r]) hX rc_17 ⟨q_1090, q_1093, q_13⟩ q_1091 q_1092 lhd_X12_feed ⟨Nat.le_of_ble_eq_true rfl, Nat.le_of_ble_eq_true rfl⟩ (r' := (r, m')) (by rw [← hy]; exact c_m_feed hX.2.2.2.2.2.2.2.2.1 μ (xs (i + 1))) rfl rfl (Nat.le_of_ble_eq_true rfl) dL_law_403 ?_
  exact y_icmp (pc := 406) hX dL_law_406 rfl (hgo s' m' L hr)
theorem lhd_X11_undo : yX11_undo.cls ≠ "java/lang/invoke/MethodHandle" ∧ yX11_undo.cls ≠ "java/lang/invoke/VarHandle" ∧ (parseMethodDescriptor yX11_undo.desc).map (fun d => d.parameters.length) = some 0 := by decide +kernel
theorem lhd_X12_undo : yX12_undo.cls ≠ "java/lang/invoke/MethodHandle" ∧ yX12_undo.cls ≠ "java/lang/invoke/VarHandle" ∧ (parseMethodDescriptor yX12_undo.desc).map (fun d => d.parameters.length) = some 0 := by decide +kernel
theorem law_9 {G : Gb} {X : CX} {l : Launch} {b n i : Nat} {xs : Nat → Int32} {σ μ : Sto} {L : Lng} (hX : OL G X l b n xs) (hi : i + 5 < n) (h : RS σ μ L) (hgo : ∀ σ' μ' L', RS σ' μ' L' → ZL G X (cmb σ' μ', L') (LSt G b i) [] 1048) : ZL G X (cmb σ μ, L) (LSt G b i) [] 411 := by
  obtain ⟨r, s', m', hx, hy, hr⟩ := op_undo h 
  refine y_aload (k := 1) (n' := 1) (pc := 411) hX dL_law_411 rfl rfl ?_
  refine y_call (E := EC μ L) (σ := σ) (pc := 412) (As := []) (stk := []) hX rc_0 ⟨q_600, q_603, q_1⟩ q_601 q_602 lhd_X11_undo ⟨Nat.le_of_ble_eq_true rfl, Nat.le_of_ble_eq_true rfl⟩ (r' := (r, s')) (by rw [← hx]; exact c_T_undo hX.2.2.2.2.2.2.2.2.1 σ ) rfl rfl (Nat.le_of_ble_eq_true rfl) dL_law_412 ?_
  refine y_aload (k := 2) (n' := 2) (pc := 415) hX dL_law_415 rfl rfl ?_
  refine y_call (E := EM s' L) (σ := μ) (pc := 416) (As := []) (stk := [.int r]) hX rc_17 ⟨q_1094, q_1097, q_13⟩ q_1095 q_1096 lhd_X12_undo ⟨Nat.le_of_ble_eq_true rfl, Nat.le_of_ble_eq_true rfl⟩ (r' := (r, m')) (by rw [← hy]; exact c_m_undo hX.2.2.2.2.2.2.2.2.1 μ ) rfl rfl (Nat.le_of_ble_eq_true rfl) dL_law_416 ?_
  exact y_icmp (pc := 419) hX dL_law_419 rfl (hgo s' m' L hr)
theorem lhd_X11_of : yX11_of.cls ≠ "java/lang/invoke/MethodHandle" ∧ yX11_of.cls ≠ "java/lang/invoke/VarHandle" ∧ (parseMethodDescriptor yX11_of.desc).map (fun d => d.parameters.length) = some 2 := by decide +kernel
theorem lhd_X12_of : yX12_of.cls ≠ "java/lang/invoke/MethodHandle" ∧ yX12_of.cls ≠ "java/lang/invoke/VarHandle" ∧ (parseMethodDescriptor yX12_of.desc).map (fun d => d.parameters.length) = some 2 := by decide +kernel
theorem law_10 {G : Gb} {X : CX} {l : Launch} {b n i : Nat} {xs : Nat → Int32} {σ μ : Sto} {L : Lng} (hX : OL G X l b n xs) (hi : i + 5 < n) (h : RS σ μ L) (hgo : ∀ σ' μ' L', RS σ' μ' L' → ZL G X (cmb σ' μ', L') (LSt G b i) [] 1048) : ZL G X (cmb σ μ, L) (LSt G b i) [] 424 := by
  obtain ⟨r, s', m', hx, hy, hr⟩ := op_of h (xs (i + 1)) (xs (i + 2))
  refine y_aload (k := 1) (n' := 1) (pc := 424) hX dL_law_424 rfl rfl ?_
  refine y_arg (j := 1) (pc := 425) hX hi (by omega) dL_law_425 dL_law_426 dL_law_427 dL_law_428 dL_law_429 rfl ?_
  refine y_arg (j := 2) (pc := 430) hX hi (by omega) dL_law_430 dL_law_431 dL_law_432 dL_law_433 dL_law_434 rfl ?_
  refine y_call (E := EC μ L) (σ := σ) (pc := 435) (As := [.int (xs (i + 1)), .int (xs (i + 2))]) (stk := []) hX rc_0 ⟨q_608, q_611, q_1⟩ q_609 q_610 lhd_X11_of ⟨Nat.le_of_ble_eq_true rfl, Nat.le_of_ble_eq_true rfl⟩ (r' := (r, s')) (by rw [← hx]; exact c_T_of hX.2.2.2.2.2.2.2.2.1 σ (xs (i + 1)) (xs (i + 2))) rfl rfl (Nat.le_of_ble_eq_true rfl) dL_law_435 ?_
  refine y_aload (k := 2) (n' := 2) (pc := 438) hX dL_law_438 rfl rfl ?_
  refine y_arg (j := 1) (pc := 439) hX hi (by omega) dL_law_439 dL_law_440 dL_law_441 dL_law_442 dL_law_443 rfl ?_
  refine y_arg (j := 2) (pc := 444) hX hi (by omega) dL_law_444 dL_law_445 dL_law_446 dL_law_447 dL_law_448 rfl ?_
  refine y_call (E := EM s' L) (σ := μ) (pc := 449) (As := [.int (xs (i + 1)), .int (xs (i + 2))]) (stk := [.int r]) hX rc_17 ⟨q_1102, q_1105, q_13⟩ q_1103 q_1104 lhd_X12_of ⟨Nat.le_of_ble_eq_true rfl, Nat.le_of_ble_eq_true rfl⟩ (r' := (r, m')) (by rw [← hy]; exact c_m_of hX.2.2.2.2.2.2.2.2.1 μ (xs (i + 1)) (xs (i + 2))) rfl rfl (Nat.le_of_ble_eq_true rfl) dL_law_449 ?_
  exact y_icmp (pc := 452) hX dL_law_452 rfl (hgo s' m' L hr)
theorem lhd_X11_makes : yX11_makes.cls ≠ "java/lang/invoke/MethodHandle" ∧ yX11_makes.cls ≠ "java/lang/invoke/VarHandle" ∧ (parseMethodDescriptor yX11_makes.desc).map (fun d => d.parameters.length) = some 1 := by decide +kernel
theorem lhd_X12_makes : yX12_makes.cls ≠ "java/lang/invoke/MethodHandle" ∧ yX12_makes.cls ≠ "java/lang/invoke/VarHandle" ∧ (parseMethodDescriptor yX12_makes.desc).map (fun d => d.parameters.length) = some 1 := by decide +kernel
theorem law_11 {G : Gb} {X : CX} {l : Launch} {b n i : Nat} {xs : Nat → Int32} {σ μ : Sto} {L : Lng} (hX : OL G X l b n xs) (hi : i + 5 < n) (h : RS σ μ L) (hgo : ∀ σ' μ' L', RS σ' μ' L' → ZL G X (cmb σ' μ', L') (LSt G b i) [] 1048) : ZL G X (cmb σ μ, L) (LSt G b i) [] 457 := by
  obtain ⟨r, s', m', hx, hy, hr⟩ := op_makes h (xs (i + 1))
  refine y_aload (k := 1) (n' := 1) (pc := 457) hX dL_law_457 rfl rfl ?_
  refine y_arg (j := 1) (pc := 458) hX hi (by omega) dL_law_458 dL_law_459 dL_law_460 dL_law_461 dL_law_462 rfl ?_
  refine y_call (E := EC μ L) (σ := σ) (pc := 463) (As := [.int (xs (i + 1))]) (stk := []) hX rc_0 ⟨q_617, q_620, q_1⟩ q_618 q_619 lhd_X11_makes ⟨Nat.le_of_ble_eq_true rfl, Nat.le_of_ble_eq_true rfl⟩ (r' := (r, s')) (by rw [← hx]; exact c_T_makes hX.2.2.2.2.2.2.2.2.1 σ (xs (i + 1))) rfl rfl (Nat.le_of_ble_eq_true rfl) dL_law_463 ?_
  refine y_aload (k := 2) (n' := 2) (pc := 466) hX dL_law_466 rfl rfl ?_
  refine y_arg (j := 1) (pc := 467) hX hi (by omega) dL_law_467 dL_law_468 dL_law_469 dL_law_470 dL_law_471 rfl ?_
  refine y_call (E := EM s' L) (σ := μ) (pc := 472) (As := [.int (xs (i + 1))]) (stk := [.int r]) hX rc_17 ⟨q_1106, q_1109, q_13⟩ q_1107 q_1108 lhd_X12_makes ⟨Nat.le_of_ble_eq_true rfl, Nat.le_of_ble_eq_true rfl⟩ (r' := (r, m')) (by rw [← hy]; exact c_m_makes hX.2.2.2.2.2.2.2.2.1 μ (xs (i + 1))) rfl rfl (Nat.le_of_ble_eq_true rfl) dL_law_472 ?_
  exact y_icmp (pc := 475) hX dL_law_475 rfl (hgo s' m' L hr)
theorem lhd_X11_lift : yX11_lift.cls ≠ "java/lang/invoke/MethodHandle" ∧ yX11_lift.cls ≠ "java/lang/invoke/VarHandle" ∧ (parseMethodDescriptor yX11_lift.desc).map (fun d => d.parameters.length) = some 1 := by decide +kernel
theorem lhd_X12_lift : yX12_lift.cls ≠ "java/lang/invoke/MethodHandle" ∧ yX12_lift.cls ≠ "java/lang/invoke/VarHandle" ∧ (parseMethodDescriptor yX12_lift.desc).map (fun d => d.parameters.length) = some 1 := by decide +kernel
theorem law_12 {G : Gb} {X : CX} {l : Launch} {b n i : Nat} {xs : Nat → Int32} {σ μ : Sto} {L : Lng} (hX : OL G X l b n xs) (hi : i + 5 < n) (h : RS σ μ L) (hgo : ∀ σ' μ' L', RS σ' μ' L' → ZL G X (cmb σ' μ', L') (LSt G b i) [] 1048) : ZL G X (cmb σ μ, L) (LSt G b i) [] 480 := by
  obtain ⟨r, s', m', hx, hy, hr⟩ := op_lift h (xs (i + 1))
  refine y_aload (k := 1) (n' := 1) (pc := 480) hX dL_law_480 rfl rfl ?_
  refine y_arg (j := 1) (pc := 481) hX hi (by omega) dL_law_481 dL_law_482 dL_law_483 dL_law_484 dL_law_485 rfl ?_
  refine y_call (E := EC μ L) (σ := σ) (pc := 486) (As := [.int (xs (i + 1))]) (stk := []) hX rc_0 ⟨q_622, q_625, q_1⟩ q_623 q_624 lhd_X11_lift ⟨Nat.le_of_ble_eq_true rfl, Nat.le_of_ble_eq_true rfl⟩ (r' := (r, s')) (by rw [← hx]; exact c_T_lift hX.2.2.2.2.2.2.2.2.1 σ (xs (i + 1))) rfl rfl (Nat.le_of_ble_eq_true rfl) dL_law_486 ?_
  refine y_aload (k := 2) (n' := 2) (pc := 489) hX dL_law_489 rfl rfl ?_
  refine y_arg (j := 1) (pc := 490) hX hi (by omega) dL_law_490 dL_law_491 dL_law_492 dL_law_493 dL_law_494 rfl ?_
  refine y_call (E := EM s' L) (σ := μ) (pc := 495) (As := [.int (xs (i + 1))]) (stk := [.int r]) hX rc_17 ⟨q_1110, q_1113, q_13⟩ q_1111 q_1112 lhd_X12_lift ⟨Nat.le_of_ble_eq_true rfl, Nat.le_of_ble_eq_true rfl⟩ (r' := (r, m')) (by rw [← hy]; exact c_m_lift hX.2.2.2.2.2.2.2.2.1 μ (xs (i + 1))) rfl rfl (Nat.le_of_ble_eq_true rfl) dL_law_495 ?_
  exact y_icmp (pc := 498) hX dL_law_498 rfl (hgo s' m' L hr)
theorem lhd_X11_both : yX11_both.cls ≠ "java/lang/invoke/MethodHandle" ∧ yX11_both.cls ≠ "java/lang/invoke/VarHandle" ∧ (parseMethodDescriptor yX11_both.desc).map (fun d => d.parameters.length) = some 1 := by decide +kernel
theorem lhd_X12_both : yX12_both.cls ≠ "java/lang/invoke/MethodHandle" ∧ yX12_both.cls ≠ "java/lang/invoke/VarHandle" ∧ (parseMethodDescriptor yX12_both.desc).map (fun d => d.parameters.length) = some 1 := by decide +kernel
theorem law_13 {G : Gb} {X : CX} {l : Launch} {b n i : Nat} {xs : Nat → Int32} {σ μ : Sto} {L : Lng} (hX : OL G X l b n xs) (hi : i + 5 < n) (h : RS σ μ L) (hgo : ∀ σ' μ' L', RS σ' μ' L' → ZL G X (cmb σ' μ', L') (LSt G b i) [] 1048) : ZL G X (cmb σ μ, L) (LSt G b i) [] 503 := by
  obtain ⟨r, s', m', hx, hy, hr⟩ := op_both h (xs (i + 1))
  refine y_aload (k := 1) (n' := 1) (pc := 503) hX dL_law_503 rfl rfl ?_
  refine y_arg (j := 1) (pc := 504) hX hi (by omega) dL_law_504 dL_law_505 dL_law_506 dL_law_507 dL_law_508 rfl ?_
  refine y_call (E := EC μ L) (σ := σ) (pc := 509) (As := [.int (xs (i + 1))]) (stk := []) hX rc_0 ⟨q_627, q_630, q_1⟩ q_628 q_629 lhd_X11_both ⟨Nat.le_of_ble_eq_true rfl, Nat.le_of_ble_eq_true rfl⟩ (r' := (r, s')) (by rw [← hx]; exact c_T_both hX.2.2.2.2.2.2.2.2.1 σ (xs (i + 1))) rfl rfl (Nat.le_of_ble_eq_true rfl) dL_law_509 ?_
  refine y_aload (k := 2) (n' := 2) (pc := 512) hX dL_law_512 rfl rfl ?_
  refine y_arg (j := 1) (pc := 513) hX hi (by omega) dL_law_513 dL_law_514 dL_law_515 dL_law_516 dL_law_517 rfl ?_
  refine y_call (E := EM s' L) (σ := μ) (pc := 518) (As := [.int (xs (i + 1))]) (stk := [.int r]) hX rc_17 ⟨q_1114, q_1117, q_13⟩ q_1115 q_1116 lhd_X12_both ⟨Nat.le_of_ble_eq_true rfl, Nat.le_of_ble_eq_true rfl⟩ (r' := (r, m')) (by rw [← hy]; exact c_m_both hX.2.2.2.2.2.2.2.2.1 μ (xs (i + 1))) rfl rfl (Nat.le_of_ble_eq_true rfl) dL_law_518 ?_
  exact y_icmp (pc := 521) hX dL_law_521 rfl (hgo s' m' L hr)
theorem lhd_X11_friends : yX11_friends.cls ≠ "java/lang/invoke/MethodHandle" ∧ yX11_friends.cls ≠ "java/lang/invoke/VarHandle" ∧ (parseMethodDescriptor yX11_friends.desc).map (fun d => d.parameters.length) = some 0 := by decide +kernel
theorem lhd_X12_friends : yX12_friends.cls ≠ "java/lang/invoke/MethodHandle" ∧ yX12_friends.cls ≠ "java/lang/invoke/VarHandle" ∧ (parseMethodDescriptor yX12_friends.desc).map (fun d => d.parameters.length) = some 0 := by decide +kernel
theorem law_14 {G : Gb} {X : CX} {l : Launch} {b n i : Nat} {xs : Nat → Int32} {σ μ : Sto} {L : Lng} (hX : OL G X l b n xs) (hi : i + 5 < n) (h : RS σ μ L) (hgo : ∀ σ' μ' L', RS σ' μ' L' → ZL G X (cmb σ' μ', L') (LSt G b i) [] 1048) : ZL G X (cmb σ μ, L) (LSt G b i) [] 526 := by
  obtain ⟨r, s', m', hx, hy, hr⟩ := op_friends h 
  refine y_aload (k := 1) (n' := 1) (pc := 526) hX dL_law_526 rfl rfl ?_
  refine y_call (E := EC μ L) (σ := σ) (pc := 527) (As := []) (stk := []) hX rc_0 ⟨q_636, q_639, q_1⟩ q_637 q_638 lhd_X11_friends ⟨Nat.le_of_ble_eq_true rfl, Nat.le_of_ble_eq_true rfl⟩ (r' := (r, s')) (by rw [← hx]; exact c_T_friends hX.2.2.2.2.2.2.2.2.1 σ ) rfl rfl (Nat.le_of_ble_eq_true rfl) dL_law_527 ?_
  refine y_aload (k := 2) (n' := 2) (pc := 530) hX dL_law_530 rfl rfl ?_
  refine y_call (E := EM s' L) (σ := μ) (pc := 531) (As := []) (stk := [.int r]) hX rc_17 ⟨q_1130, q_1133, q_13⟩ q_1131 q_1132 lhd_X12_friends ⟨Nat.le_of_ble_eq_true rfl, Nat.le_of_ble_eq_true rfl⟩ (r' := (r, m')) (by rw [← hy]; exact c_m_friends hX.2.2.2.2.2.2.2.2.1 μ ) rfl rfl (Nat.le_of_ble_eq_true rfl) dL_law_531 ?_
  exact y_icmp (pc := 534) hX dL_law_534 rfl (hgo s' m' L hr)
theorem lhd_X11_then : yX11_then.cls ≠ "java/lang/invoke/MethodHandle" ∧ yX11_then.cls ≠ "java/lang/invoke/VarHandle" ∧ (parseMethodDescriptor yX11_then.desc).map (fun d => d.parameters.length) = some 1 := by decide +kernel
theorem lhd_X12_then : yX12_then.cls ≠ "java/lang/invoke/MethodHandle" ∧ yX12_then.cls ≠ "java/lang/invoke/VarHandle" ∧ (parseMethodDescriptor yX12_then.desc).map (fun d => d.parameters.length) = some 1 := by decide +kernel
theorem law_15 {G : Gb} {X : CX} {l : Launch} {b n i : Nat} {xs : Nat → Int32} {σ μ : Sto} {L : Lng} (hX : OL G X l b n xs) (hi : i + 5 < n) (h : RS σ μ L) (hgo : ∀ σ' μ' L', RS σ' μ' L' → ZL G X (cmb σ' μ', L') (LSt G b i) [] 1048) : ZL G X (cmb σ μ, L) (LSt G b i) [] 539 := by
  obtain ⟨r, s', m', hx, hy, hr⟩ := op_then h (xs (i + 1))
  refine y_aload (k := 1) (n' := 1) (pc := 539) hX dL_law_539 rfl rfl ?_
  refine y_arg (j := 1) (pc := 540) hX hi (by omega) dL_law_540 dL_law_541 dL_law_542 dL_law_543 dL_law_544 rfl ?_
  refine y_call (E := EC μ L) (σ := σ) (pc := 545) (As := [.int (xs (i + 1))]) (stk := []) hX rc_0 ⟨q_649, q_652, q_1⟩ q_650 q_651 lhd_X11_then ⟨Nat.le_of_ble_eq_true rfl, Nat.le_of_ble_eq_true rfl⟩ (r' := (r, s')) (by rw [← hx]; exact c_T_then hX.2.2.2.2.2.2.2.2.1 σ (xs (i + 1))) rfl rfl (Nat.le_of_ble_eq_true rfl) dL_law_545 ?_
  refine y_aload (k := 2) (n' := 2) (pc := 548) hX dL_law_548 rfl rfl ?_
  refine y_arg (j := 1) (pc := 549) hX hi (by omega) dL_law_549 dL_law_550 dL_law_551 dL_law_552 dL_law_553 rfl ?_
  refine y_call (E := EM s' L) (σ := μ) (pc := 554) (As := [.int (xs (i + 1))]) (stk := [.int r]) hX rc_17 ⟨q_1138, q_1141, q_13⟩ q_1139 q_1140 lhd_X12_then ⟨Nat.le_of_ble_eq_true rfl, Nat.le_of_ble_eq_true rfl⟩ (r' := (r, m')) (by rw [← hy]; exact c_m_then hX.2.2.2.2.2.2.2.2.1 μ (xs (i + 1))) rfl rfl (Nat.le_of_ble_eq_true rfl) dL_law_554 ?_
  exact y_icmp (pc := 557) hX dL_law_557 rfl (hgo s' m' L hr)
theorem lhd_X11_most : yX11_most.cls ≠ "java/lang/invoke/MethodHandle" ∧ yX11_most.cls ≠ "java/lang/invoke/VarHandle" ∧ (parseMethodDescriptor yX11_most.desc).map (fun d => d.parameters.length) = some 2 := by decide +kernel
theorem lhd_X12_most : yX12_most.cls ≠ "java/lang/invoke/MethodHandle" ∧ yX12_most.cls ≠ "java/lang/invoke/VarHandle" ∧ (parseMethodDescriptor yX12_most.desc).map (fun d => d.parameters.length) = some 2 := by decide +kernel
theorem law_16 {G : Gb} {X : CX} {l : Launch} {b n i : Nat} {xs : Nat → Int32} {σ μ : Sto} {L : Lng} (hX : OL G X l b n xs) (hi : i + 5 < n) (h : RS σ μ L) (hgo : ∀ σ' μ' L', RS σ' μ' L' → ZL G X (cmb σ' μ', L') (LSt G b i) [] 1048) : ZL G X (cmb σ μ, L) (LSt G b i) [] 562 := by
  obtain ⟨r, s', m', hx, hy, hr⟩ := op_most h (xs (i + 1)) (xs (i + 2))
  refine y_aload (k := 1) (n' := 1) (pc := 562) hX dL_law_562 rfl rfl ?_
  refine y_arg (j := 1) (pc := 563) hX hi (by omega) dL_law_563 dL_law_564 dL_law_565 dL_law_566 dL_law_567 rfl ?_
  refine y_arg (j := 2) (pc := 568) hX hi (by omega) dL_law_568 dL_law_569 dL_law_570 dL_law_571 dL_law_572 rfl ?_
  refine y_call (E := EC μ L) (σ := σ) (pc := 573) (As := [.int (xs (i + 1)), .int (xs (i + 2))]) (stk := []) hX rc_0 ⟨q_653, q_656, q_1⟩ q_654 q_655 lhd_X11_most ⟨Nat.le_of_ble_eq_true rfl, Nat.le_of_ble_eq_true rfl⟩ (r' := (r, s')) (by rw [← hx]; exact c_T_most hX.2.2.2.2.2.2.2.2.1 σ (xs (i + 1)) (xs (i + 2))) rfl rfl (Nat.le_of_ble_eq_true rfl) dL_law_573 ?_
  refine y_aload (k := 2) (n' := 2) (pc := 576) hX dL_law_576 rfl rfl ?_
  refine y_arg (j := 1) (pc := 577) hX hi (by omega) dL_law_577 dL_law_578 dL_law_579 dL_law_580 dL_law_581 rfl ?_
  refine y_arg (j := 2) (pc := 582) hX hi (by omega) dL_law_582 dL_law_583 dL_law_584 dL_law_585 dL_law_586 rfl ?_
  refine y_call (E := EM s' L) (σ := μ) (pc := 587) (As := [.int (xs (i + 1)), .int (xs (i + 2))]) (stk := [.int r]) hX rc_17 ⟨q_1142, q_1145, q_13⟩ q_1143 q_1144 lhd_X12_most ⟨Nat.le_of_ble_eq_true rfl, Nat.le_of_ble_eq_true rfl⟩ (r' := (r, m')) (by rw [← hy]; exact c_m_most hX.2.2.2.2.2.2.2.2.1 μ (xs (i + 1)) (xs (i + 2))) rfl rfl (Nat.le_of_ble_eq_true rfl) dL_law_587 ?_
  exact y_icmp (pc := 590) hX dL_law_590 rfl (hgo s' m' L hr)
theorem lhd_X11_keep : yX11_keep.cls ≠ "java/lang/invoke/MethodHandle" ∧ yX11_keep.cls ≠ "java/lang/invoke/VarHandle" ∧ (parseMethodDescriptor yX11_keep.desc).map (fun d => d.parameters.length) = some 1 := by decide +kernel
theorem lhd_X12_keep : yX12_keep.cls ≠ "java/lang/invoke/MethodHandle" ∧ yX12_keep.cls ≠ "java/lang/invoke/VarHandle" ∧ (parseMethodDescriptor yX12_keep.desc).map (fun d => d.parameters.length) = some 1 := by decide +kernel
theorem law_17 {G : Gb} {X : CX} {l : Launch} {b n i : Nat} {xs : Nat → Int32} {σ μ : Sto} {L : Lng} (hX : OL G X l b n xs) (hi : i + 5 < n) (h : RS σ μ L) (hgo : ∀ σ' μ' L', RS σ' μ' L' → ZL G X (cmb σ' μ', L') (LSt G b i) [] 1048) : ZL G X (cmb σ μ, L) (LSt G b i) [] 595 := by
  obtain ⟨r, s', m', hx, hy, hr⟩ := op_keep h (xs (i + 1))
  refine y_aload (k := 1) (n' := 1) (pc := 595) hX dL_law_595 rfl rfl ?_
  refine y_arg (j := 1) (pc := 596) hX hi (by omega) dL_law_596 dL_law_597 dL_law_598 dL_law_599 dL_law_600 rfl ?_
  refine y_call (E := EC μ L) (σ := σ) (pc := 601) (As := [.int (xs (i + 1))]) (stk := []) hX rc_0 ⟨q_665, q_668, q_1⟩ q_666 q_667 lhd_X11_keep ⟨Nat.le_of_ble_eq_true rfl, Nat.le_of_ble_eq_true rfl⟩ (r' := (r, s')) (by rw [← hx]; exact c_T_keep hX.2.2.2.2.2.2.2.2.1 σ (xs (i + 1))) rfl rfl (Nat.le_of_ble_eq_true rfl) dL_law_601 ?_
  refine y_aload (k := 2) (n' := 2) (pc := 604) hX dL_law_604 rfl rfl ?_
  refine y_arg (j := 1) (pc := 605) hX hi (by omega) dL_law_605 dL_law_606 dL_law_607 dL_law_608 dL_law_609 rfl ?_
  refine y_call (E := EM s' L) (σ := μ) (pc := 610) (As := [.int (xs (i + 1))]) (stk := [.int r]) hX rc_17 ⟨q_1157, q_1160, q_13⟩ q_1158 q_1159 lhd_X12_keep ⟨Nat.le_of_ble_eq_true rfl, Nat.le_of_ble_eq_true rfl⟩ (r' := (r, m')) (by rw [← hy]; exact c_m_keep hX.2.2.2.2.2.2.2.2.1 μ (xs (i + 1))) rfl rfl (Nat.le_of_ble_eq_true rfl) dL_law_610 ?_
  exact y_icmp (pc := 613) hX dL_law_613 rfl (hgo s' m' L hr)
theorem lhd_X11_lasts : yX11_lasts.cls ≠ "java/lang/invoke/MethodHandle" ∧ yX11_lasts.cls ≠ "java/lang/invoke/VarHandle" ∧ (parseMethodDescriptor yX11_lasts.desc).map (fun d => d.parameters.length) = some 2 := by decide +kernel
theorem lhd_X12_lasts : yX12_lasts.cls ≠ "java/lang/invoke/MethodHandle" ∧ yX12_lasts.cls ≠ "java/lang/invoke/VarHandle" ∧ (parseMethodDescriptor yX12_lasts.desc).map (fun d => d.parameters.length) = some 2 := by decide +kernel
theorem law_18 {G : Gb} {X : CX} {l : Launch} {b n i : Nat} {xs : Nat → Int32} {σ μ : Sto} {L : Lng} (hX : OL G X l b n xs) (hi : i + 5 < n) (h : RS σ μ L) (hgo : ∀ σ' μ' L', RS σ' μ' L' → ZL G X (cmb σ' μ', L') (LSt G b i) [] 1048) : ZL G X (cmb σ μ, L) (LSt G b i) [] 618 := by
  obtain ⟨r, s', m', hx, hy, hr⟩ := op_lasts h (xs (i + 1)) (xs (i + 2))
  refine y_aload (k := 1) (n' := 1) (pc := 618) hX dL_law_618 rfl rfl ?_
  refine y_arg (j := 1) (pc := 619) hX hi (by omega) dL_law_619 dL_law_620 dL_law_621 dL_law_622 dL_law_623 rfl ?_
  refine y_arg (j := 2) (pc := 624) hX hi (by omega) dL_law_624 dL_law_625 dL_law_626 dL_law_627 dL_law_628 rfl ?_
  refine y_call (E := EC μ L) (σ := σ) (pc := 629) (As := [.int (xs (i + 1)), .int (xs (i + 2))]) (stk := []) hX rc_0 ⟨q_673, q_676, q_1⟩ q_674 q_675 lhd_X11_lasts ⟨Nat.le_of_ble_eq_true rfl, Nat.le_of_ble_eq_true rfl⟩ (r' := (r, s')) (by rw [← hx]; exact c_T_lasts hX.2.2.2.2.2.2.2.2.1 σ (xs (i + 1)) (xs (i + 2))) rfl rfl (Nat.le_of_ble_eq_true rfl) dL_law_629 ?_
  refine y_aload (k := 2) (n' := 2) (pc := 632) hX dL_law_632 rfl rfl ?_
  refine y_arg (j := 1) (pc := 633) hX hi (by omega) dL_law_633 dL_law_634 dL_law_635 dL_law_636 dL_law_637 rfl ?_
  refine y_arg (j := 2) (pc := 638) hX hi (by omega) dL_law_638 dL_law_639 dL_law_640 dL_law_641 dL_law_642 rfl ?_
  refine y_call (E := EM s' L) (σ := μ) (pc := 643) (As := [.int (xs (i + 1)), .int (xs (i + 2))]) (stk := [.int r]) hX rc_17 ⟨q_1161, q_1164, q_13⟩ q_1162 q_1163 lhd_X12_lasts ⟨Nat.le_of_ble_eq_true rfl, Nat.le_of_ble_eq_true rfl⟩ (r' := (r, m')) (by rw [← hy]; exact c_m_lasts hX.2.2.2.2.2.2.2.2.1 μ (xs (i + 1)) (xs (i + 2))) rfl rfl (Nat.le_of_ble_eq_true rfl) dL_law_643 ?_
  exact y_icmp (pc := 646) hX dL_law_646 rfl (hgo s' m' L hr)
theorem lhd_X11_pairs : yX11_pairs.cls ≠ "java/lang/invoke/MethodHandle" ∧ yX11_pairs.cls ≠ "java/lang/invoke/VarHandle" ∧ (parseMethodDescriptor yX11_pairs.desc).map (fun d => d.parameters.length) = some 1 := by decide +kernel
theorem lhd_X12_pairs : yX12_pairs.cls ≠ "java/lang/invoke/MethodHandle" ∧ yX12_pairs.cls ≠ "java/lang/invoke/VarHandle" ∧ (parseMethodDescriptor yX12_pairs.desc).map (fun d => d.parameters.length) = some 1 := by decide +kernel
theorem law_19 {G : Gb} {X : CX} {l : Launch} {b n i : Nat} {xs : Nat → Int32} {σ μ : Sto} {L : Lng} (hX : OL G X l b n xs) (hi : i + 5 < n) (h : RS σ μ L) (hgo : ∀ σ' μ' L', RS σ' μ' L' → ZL G X (cmb σ' μ', L') (LSt G b i) [] 1048) : ZL G X (cmb σ μ, L) (LSt G b i) [] 651 := by
  obtain ⟨r, s', m', hx, hy, hr⟩ := op_pairs h (xs (i + 1))
  refine y_aload (k := 1) (n' := 1) (pc := 651) hX dL_law_651 rfl rfl ?_
  refine y_arg (j := 1) (pc := 652) hX hi (by omega) dL_law_652 dL_law_653 dL_law_654 dL_law_655 dL_law_656 rfl ?_
  refine y_call (E := EC μ L) (σ := σ) (pc := 657) (As := [.int (xs (i + 1))]) (stk := []) hX rc_0 ⟨q_682, q_685, q_1⟩ q_683 q_684 lhd_X11_pairs ⟨Nat.le_of_ble_eq_true rfl, Nat.le_of_ble_eq_true rfl⟩ (r' := (r, s')) (by rw [← hx]; exact c_T_pairs hX.2.2.2.2.2.2.2.2.1 σ (xs (i + 1))) rfl rfl (Nat.le_of_ble_eq_true rfl) dL_law_657 ?_
  refine y_aload (k := 2) (n' := 2) (pc := 660) hX dL_law_660 rfl rfl ?_
  refine y_arg (j := 1) (pc := 661) hX hi (by omega) dL_law_661 dL_law_662 dL_law_663 dL_law_664 dL_law_665 rfl ?_
  refine y_call (E := EM s' L) (σ := μ) (pc := 666) (As := [.int (xs (i + 1))]) (stk := [.int r]) hX rc_17 ⟨q_1169, q_1172, q_13⟩ q_1170 q_1171 lhd_X12_pairs ⟨Nat.le_of_ble_eq_true rfl, Nat.le_of_ble_eq_true rfl⟩ (r' := (r, m')) (by rw [← hy]; exact c_m_pairs hX.2.2.2.2.2.2.2.2.1 μ (xs (i + 1))) rfl rfl (Nat.le_of_ble_eq_true rfl) dL_law_666 ?_
  exact y_icmp (pc := 669) hX dL_law_669 rfl (hgo s' m' L hr)
theorem lhd_X11_note : yX11_note.cls ≠ "java/lang/invoke/MethodHandle" ∧ yX11_note.cls ≠ "java/lang/invoke/VarHandle" ∧ (parseMethodDescriptor yX11_note.desc).map (fun d => d.parameters.length) = some 5 := by decide +kernel
theorem lhd_X12_note : yX12_note.cls ≠ "java/lang/invoke/MethodHandle" ∧ yX12_note.cls ≠ "java/lang/invoke/VarHandle" ∧ (parseMethodDescriptor yX12_note.desc).map (fun d => d.parameters.length) = some 5 := by decide +kernel
theorem law_20 {G : Gb} {X : CX} {l : Launch} {b n i : Nat} {xs : Nat → Int32} {σ μ : Sto} {L : Lng} (hX : OL G X l b n xs) (hi : i + 5 < n) (h : RS σ μ L) (hgo : ∀ σ' μ' L', RS σ' μ' L' → ZL G X (cmb σ' μ', L') (LSt G b i) [] 1048) : ZL G X (cmb σ μ, L) (LSt G b i) [] 674 := by
  obtain ⟨r, s', m', hx, hy, hr⟩ := op_note h (xs (i + 1)) (xs (i + 2)) (xs (i + 3)) (xs (i + 4)) (xs (i + 5))
  refine y_aload (k := 1) (n' := 1) (pc := 674) hX dL_law_674 rfl rfl ?_
  refine y_arg (j := 1) (pc := 675) hX hi (by omega) dL_law_675 dL_law_676 dL_law_677 dL_law_678 dL_law_679 rfl ?_
  refine y_arg (j := 2) (pc := 680) hX hi (by omega) dL_law_680 dL_law_681 dL_law_682 dL_law_683 dL_law_684 rfl ?_
  refine y_arg (j := 3) (pc := 685) hX hi (by omega) dL_law_685 dL_law_686 dL_law_687 dL_law_688 dL_law_689 rfl ?_
  refine y_arg (j := 4) (pc := 690) hX hi (by omega) dL_law_690 dL_law_691 dL_law_692 dL_law_693 dL_law_694 rfl ?_
  refine y_arg (j := 5) (pc := 695) hX hi (by omega) dL_law_695 dL_law_696 dL_law_697 dL_law_698 dL_law_699 rfl ?_
  refine y_call (E := EC μ L) (σ := σ) (pc := 700) (As := [.int (xs (i + 1)), .int (xs (i + 2)), .int (xs (i + 3)), .int (xs (i + 4)), .int (xs (i + 5))]) (stk := []) hX rc_0 ⟨q_694, q_697, q_1⟩ q_695 q_696 lhd_X11_note ⟨Nat.le_of_ble_eq_true rfl, Nat.le_of_ble_eq_true rfl⟩ (r' := (r, s')) (by rw [← hx]; exact c_T_note hX.2.2.2.2.2.2.2.2.1 σ (xs (i + 1)) (xs (i + 2)) (xs (i + 3)) (xs (i + 4)) (xs (i + 5))) rfl rfl (Nat.le_of_ble_eq_true rfl) dL_law_700 ?_
  refine y_aload (k := 2) (n' := 2) (pc := 703) hX dL_law_703 rfl rfl ?_
  refine y_arg (j := 1) (pc := 704) hX hi (by omega) dL_law_704 dL_law_705 dL_law_706 dL_law_707 dL_law_708 rfl ?_
  refine y_arg (j := 2) (pc := 709) hX hi (by omega) dL_law_709 dL_law_710 dL_law_711 dL_law_712 dL_law_713 rfl ?_
  refine y_arg (j := 3) (pc := 714) hX hi (by omega) dL_law_714 dL_law_715 dL_law_716 dL_law_717 dL_law_718 rfl ?_
  refine y_arg (j := 4) (pc := 719) hX hi (by omega) dL_law_719 dL_law_720 dL_law_721 dL_law_722 dL_law_723 rfl ?_
  refine y_arg (j := 5) (pc := 724) hX hi (by omega) dL_law_724 dL_law_725 dL_law_726 dL_law_727 dL_law_728 rfl ?_
  refine y_call (E := EM s' L) (σ := μ) (pc := 729) (As := [.int (xs (i + 1)), .int (xs (i + 2)), .int (xs (i + 3)), .int (xs (i + 4)), .int (xs (i + 5))]) (stk := [.int r]) hX rc_17 ⟨q_1177, q_1180, q_13⟩ q_1178 q_1179 lhd_X12_note ⟨Nat.le_of_ble_eq_true rfl, Nat.le_of_ble_eq_true rfl⟩ (r' := (r, m')) (by rw [← hy]; exact c_m_note hX.2.2.2.2.2.2.2.2.1 μ (xs (i + 1)) (xs (i + 2)) (xs (i + 3)) (xs (i + 4)) (xs (i + 5))) rfl rfl (Nat.le_of_ble_eq_true rfl) dL_law_729 ?_
  exact y_icmp (pc := 732) hX dL_law_732 rfl (hgo s' m' L hr)
theorem lhd_X11_forget : yX11_forget.cls ≠ "java/lang/invoke/MethodHandle" ∧ yX11_forget.cls ≠ "java/lang/invoke/VarHandle" ∧ (parseMethodDescriptor yX11_forget.desc).map (fun d => d.parameters.length) = some 0 := by decide +kernel
theorem lhd_X12_forget : yX12_forget.cls ≠ "java/lang/invoke/MethodHandle" ∧ yX12_forget.cls ≠ "java/lang/invoke/VarHandle" ∧ (parseMethodDescriptor yX12_forget.desc).map (fun d => d.parameters.length) = some 0 := by decide +kernel
theorem law_21 {G : Gb} {X : CX} {l : Launch} {b n i : Nat} {xs : Nat → Int32} {σ μ : Sto} {L : Lng} (hX : OL G X l b n xs) (hi : i + 5 < n) (h : RS σ μ L) (hgo : ∀ σ' μ' L', RS σ' μ' L' → ZL G X (cmb σ' μ', L') (LSt G b i) [] 1048) : ZL G X (cmb σ μ, L) (LSt G b i) [] 737 := by
  obtain ⟨r, s', m', hx, hy, hr⟩ := op_forget h 
  refine y_aload (k := 1) (n' := 1) (pc := 737) hX dL_law_737 rfl rfl ?_
  refine y_call (E := EC μ L) (σ := σ) (pc := 738) (As := []) (stk := []) hX rc_0 ⟨q_699, q_702, q_1⟩ q_700 q_701 lhd_X11_forget ⟨Nat.le_of_ble_eq_true rfl, Nat.le_of_ble_eq_true rfl⟩ (r' := (r, s')) (by rw [← hx]; exact c_T_forget hX.2.2.2.2.2.2.2.2.1 σ ) rfl rfl (Nat.le_of_ble_eq_true rfl) dL_law_738 ?_
  refine y_aload (k := 2) (n' := 2) (pc := 741) hX dL_law_741 rfl rfl ?_
  refine y_call (E := EM s' L) (σ := μ) (pc := 742) (As := []) (stk := [.int r]) hX rc_17 ⟨q_1181, q_1184, q_13⟩ q_1182 q_1183 lhd_X12_forget ⟨Nat.le_of_ble_eq_true rfl, Nat.le_of_ble_eq_true rfl⟩ (r' := (r, m')) (by rw [← hy]; exact c_m_forget hX.2.2.2.2.2.2.2.2.1 μ ) rfl rfl (Nat.le_of_ble_eq_true rfl) dL_law_742 ?_
  exact y_icmp (pc := 745) hX dL_law_745 rfl (hgo s' m' L hr)
theorem lhd_X11_is : yX11_is.cls ≠ "java/lang/invoke/MethodHandle" ∧ yX11_is.cls ≠ "java/lang/invoke/VarHandle" ∧ (parseMethodDescriptor yX11_is.desc).map (fun d => d.parameters.length) = some 1 := by decide +kernel
theorem lhd_X12_is : yX12_is.cls ≠ "java/lang/invoke/MethodHandle" ∧ yX12_is.cls ≠ "java/lang/invoke/VarHandle" ∧ (parseMethodDescriptor yX12_is.desc).map (fun d => d.parameters.length) = some 1 := by decide +kernel
theorem law_22 {G : Gb} {X : CX} {l : Launch} {b n i : Nat} {xs : Nat → Int32} {σ μ : Sto} {L : Lng} (hX : OL G X l b n xs) (hi : i + 5 < n) (h : RS σ μ L) (hgo : ∀ σ' μ' L', RS σ' μ' L' → ZL G X (cmb σ' μ', L') (LSt G b i) [] 1048) : ZL G X (cmb σ μ, L) (LSt G b i) [] 750 := by
  obtain ⟨r, s', m', hx, hy, hr⟩ := op_is h (xs (i + 1))
  refine y_aload (k := 1) (n' := 1) (pc := 750) hX dL_law_750 rfl rfl ?_
  refine y_arg (j := 1) (pc := 751) hX hi (by omega) dL_law_751 dL_law_752 dL_law_753 dL_law_754 dL_law_755 rfl ?_
  refine y_call (E := EC μ L) (σ := σ) (pc := 756) (As := [.int (xs (i + 1))]) (stk := []) hX rc_0 ⟨q_703, q_706, q_1⟩ q_704 q_705 lhd_X11_is ⟨Nat.le_of_ble_eq_true rfl, Nat.le_of_ble_eq_true rfl⟩ (r' := (r, s')) (by rw [← hx]; exact c_T_is hX.2.2.2.2.2.2.2.2.1 σ (xs (i + 1))) rfl rfl (Nat.le_of_ble_eq_true rfl) dL_law_756 ?_
  refine y_aload (k := 2) (n' := 2) (pc := 759) hX dL_law_759 rfl rfl ?_
  refine y_arg (j := 1) (pc := 760) hX hi (by omega) dL_law_760 dL_law_761 dL_law_762 dL_law_763 dL_law_764 rfl ?_
  refine y_call (E := EM s' L) (σ := μ) (pc := 765) (As := [.int (xs (i + 1))]) (stk := [.int r]) hX rc_17 ⟨q_1185, q_1188, q_13⟩ q_1186 q_1187 lhd_X12_is ⟨Nat.le_of_ble_eq_true rfl, Nat.le_of_ble_eq_true rfl⟩ (r' := (r, m')) (by rw [← hy]; exact c_m_is hX.2.2.2.2.2.2.2.2.1 μ (xs (i + 1))) rfl rfl (Nat.le_of_ble_eq_true rfl) dL_law_765 ?_
  exact y_icmp (pc := 768) hX dL_law_768 rfl (hgo s' m' L hr)
theorem lhd_X11_heart : yX11_heart.cls ≠ "java/lang/invoke/MethodHandle" ∧ yX11_heart.cls ≠ "java/lang/invoke/VarHandle" ∧ (parseMethodDescriptor yX11_heart.desc).map (fun d => d.parameters.length) = some 2 := by decide +kernel
theorem lhd_X12_heart : yX12_heart.cls ≠ "java/lang/invoke/MethodHandle" ∧ yX12_heart.cls ≠ "java/lang/invoke/VarHandle" ∧ (parseMethodDescriptor yX12_heart.desc).map (fun d => d.parameters.length) = some 2 := by decide +kernel
theorem law_23 {G : Gb} {X : CX} {l : Launch} {b n i : Nat} {xs : Nat → Int32} {σ μ : Sto} {L : Lng} (hX : OL G X l b n xs) (hi : i + 5 < n) (h : RS σ μ L) (hgo : ∀ σ' μ' L', RS σ' μ' L' → ZL G X (cmb σ' μ', L') (LSt G b i) [] 1048) : ZL G X (cmb σ μ, L) (LSt G b i) [] 773 := by
  obtain ⟨r, s', m', hx, hy, hr⟩ := op_heart h (xs (i + 1)) (xs (i + 2))
  refine y_aload (k := 1) (n' := 1) (pc := 773) hX dL_law_773 rfl rfl ?_
  refine y_arg (j := 1) (pc := 774) hX hi (by omega) dL_law_774 dL_law_775 dL_law_776 dL_law_777 dL_law_778 rfl ?_
  refine y_arg (j := 2) (pc := 779) hX hi (by omega) dL_law_779 dL_law_780 dL_law_781 dL_law_782 dL_law_783 rfl ?_
  refine y_call (E := EC μ L) (σ := σ) (pc := 784) (As := [.int (xs (i + 1)), .int (xs (i + 2))]) (stk := []) hX rc_0 ⟨q_715, q_718, q_1⟩ q_716 q_717 lhd_X11_heart ⟨Nat.le_of_ble_eq_true rfl, Nat.le_of_ble_eq_true rfl⟩ (r' := (r, s')) (by rw [← hx]; exact c_T_heart hX.2.2.2.2.2.2.2.2.1 σ (xs (i + 1)) (xs (i + 2))) rfl rfl (Nat.le_of_ble_eq_true rfl) dL_law_784 ?_
  refine y_aload (k := 2) (n' := 2) (pc := 787) hX dL_law_787 rfl rfl ?_
  refine y_arg (j := 1) (pc := 788) hX hi (by omega) dL_law_788 dL_law_789 dL_law_790 dL_law_791 dL_law_792 rfl ?_
  refine y_arg (j := 2) (pc := 793) hX hi (by omega) dL_law_793 dL_law_794 dL_law_795 dL_law_796 dL_law_797 rfl ?_
  refine y_call (E := EM s' L) (σ := μ) (pc := 798) (As := [.int (xs (i + 1)), .int (xs (i + 2))]) (stk := [.int r]) hX rc_17 ⟨q_1197, q_1200, q_13⟩ q_1198 q_1199 lhd_X12_heart ⟨Nat.le_of_ble_eq_true rfl, Nat.le_of_ble_eq_true rfl⟩ (r' := (r, m')) (by rw [← hy]; exact c_m_heart hX.2.2.2.2.2.2.2.2.1 μ (xs (i + 1)) (xs (i + 2))) rfl rfl (Nat.le_of_ble_eq_true rfl) dL_law_798 ?_
  exact y_icmp (pc := 801) hX dL_law_801 rfl (hgo s' m' L hr)
theorem lhd_X11_next : yX11_next.cls ≠ "java/lang/invoke/MethodHandle" ∧ yX11_next.cls ≠ "java/lang/invoke/VarHandle" ∧ (parseMethodDescriptor yX11_next.desc).map (fun d => d.parameters.length) = some 1 := by decide +kernel
theorem lhd_X12_next : yX12_next.cls ≠ "java/lang/invoke/MethodHandle" ∧ yX12_next.cls ≠ "java/lang/invoke/VarHandle" ∧ (parseMethodDescriptor yX12_next.desc).map (fun d => d.parameters.length) = some 1 := by decide +kernel
theorem law_24 {G : Gb} {X : CX} {l : Launch} {b n i : Nat} {xs : Nat → Int32} {σ μ : Sto} {L : Lng} (hX : OL G X l b n xs) (hi : i + 5 < n) (h : RS σ μ L) (hgo : ∀ σ' μ' L', RS σ' μ' L' → ZL G X (cmb σ' μ', L') (LSt G b i) [] 1048) : ZL G X (cmb σ μ, L) (LSt G b i) [] 806 := by
  obtain ⟨r, s', m', hx, hy, hr⟩ := op_next h (xs (i + 1))
  refine y_aload (k := 1) (n' := 1) (pc := 806) hX dL_law_806 rfl rfl ?_
  refine y_arg (j := 1) (pc := 807) hX hi (by omega) dL_law_807 dL_law_808 dL_law_809 dL_law_810 dL_law_811 rfl ?_
  refine y_call (E := EC μ L) (σ := σ) (pc := 812) (As := [.int (xs (i + 1))]) (stk := []) hX rc_0 ⟨q_720, q_723, q_1⟩ q_721 q_722 lhd_X11_next ⟨Nat.le_of_ble_eq_true rfl, Nat.le_of_ble_eq_true rfl⟩ (r' := (r, s')) (by rw [← hx]; exact c_T_next hX.2.2.2.2.2.2.2.2.1 σ (xs (i + 1))) rfl rfl (Nat.le_of_ble_eq_true rfl) dL_law_812 ?_
  refine y_aload (k := 2) (n' := 2) (pc := 815) hX dL_law_815 rfl rfl ?_
  refine y_arg (j := 1) (pc := 816) hX hi (by omega) dL_law_816 dL_law_817 dL_law_818 dL_law_819 dL_law_820 rfl ?_
  refine y_call (E := EM s' L) (σ := μ) (pc := 821) (As := [.int (xs (i + 1))]) (stk := [.int r]) hX rc_17 ⟨q_1201, q_1204, q_13⟩ q_1202 q_1203 lhd_X12_next ⟨Nat.le_of_ble_eq_true rfl, Nat.le_of_ble_eq_true rfl⟩ (r' := (r, m')) (by rw [← hy]; exact c_m_next hX.2.2.2.2.2.2.2.2.1 μ (xs (i + 1))) rfl rfl (Nat.le_of_ble_eq_true rfl) dL_law_821 ?_
  exact y_icmp (pc := 824) hX dL_law_824 rfl (hgo s' m' L hr)
theorem lhd_X11_spite : yX11_spite.cls ≠ "java/lang/invoke/MethodHandle" ∧ yX11_spite.cls ≠ "java/lang/invoke/VarHandle" ∧ (parseMethodDescriptor yX11_spite.desc).map (fun d => d.parameters.length) = some 1 := by decide +kernel
theorem lhd_X12_spite : yX12_spite.cls ≠ "java/lang/invoke/MethodHandle" ∧ yX12_spite.cls ≠ "java/lang/invoke/VarHandle" ∧ (parseMethodDescriptor yX12_spite.desc).map (fun d => d.parameters.length) = some 1 := by decide +kernel
theorem law_25 {G : Gb} {X : CX} {l : Launch} {b n i : Nat} {xs : Nat → Int32} {σ μ : Sto} {L : Lng} (hX : OL G X l b n xs) (hi : i + 5 < n) (h : RS σ μ L) (hgo : ∀ σ' μ' L', RS σ' μ' L' → ZL G X (cmb σ' μ', L') (LSt G b i) [] 1048) : ZL G X (cmb σ μ, L) (LSt G b i) [] 829 := by
  obtain ⟨r, s', m', hx, hy, hr⟩ := op_spite h (xs (i + 1))
  refine y_aload (k := 1) (n' := 1) (pc := 829) hX dL_law_829 rfl rfl ?_
  refine y_arg (j := 1) (pc := 830) hX hi (by omega) dL_law_830 dL_law_831 dL_law_832 dL_law_833 dL_law_834 rfl ?_
  refine y_call (E := EC μ L) (σ := σ) (pc := 835) (As := [.int (xs (i + 1))]) (stk := []) hX rc_0 ⟨q_735, q_738, q_1⟩ q_736 q_737 lhd_X11_spite ⟨Nat.le_of_ble_eq_true rfl, Nat.le_of_ble_eq_true rfl⟩ (r' := (r, s')) (by rw [← hx]; exact c_T_spite hX.2.2.2.2.2.2.2.2.1 σ (xs (i + 1))) rfl rfl (Nat.le_of_ble_eq_true rfl) dL_law_835 ?_
  refine y_aload (k := 2) (n' := 2) (pc := 838) hX dL_law_838 rfl rfl ?_
  refine y_arg (j := 1) (pc := 839) hX hi (by omega) dL_law_839 dL_law_840 dL_law_841 dL_law_842 dL_law_843 rfl ?_
  refine y_call (E := EM s' L) (σ := μ) (pc := 844) (As := [.int (xs (i + 1))]) (stk := [.int r]) hX rc_17 ⟨q_1209, q_1212, q_13⟩ q_1210 q_1211 lhd_X12_spite ⟨Nat.le_of_ble_eq_true rfl, Nat.le_of_ble_eq_true rfl⟩ (r' := (r, m')) (by rw [← hy]; exact c_m_spite hX.2.2.2.2.2.2.2.2.1 μ (xs (i + 1))) rfl rfl (Nat.le_of_ble_eq_true rfl) dL_law_844 ?_
  exact y_icmp (pc := 847) hX dL_law_847 rfl (hgo s' m' L hr)
theorem lhd_X11_slips : yX11_slips.cls ≠ "java/lang/invoke/MethodHandle" ∧ yX11_slips.cls ≠ "java/lang/invoke/VarHandle" ∧ (parseMethodDescriptor yX11_slips.desc).map (fun d => d.parameters.length) = some 2 := by decide +kernel
theorem lhd_X12_slips : yX12_slips.cls ≠ "java/lang/invoke/MethodHandle" ∧ yX12_slips.cls ≠ "java/lang/invoke/VarHandle" ∧ (parseMethodDescriptor yX12_slips.desc).map (fun d => d.parameters.length) = some 2 := by decide +kernel
theorem law_26 {G : Gb} {X : CX} {l : Launch} {b n i : Nat} {xs : Nat → Int32} {σ μ : Sto} {L : Lng} (hX : OL G X l b n xs) (hi : i + 5 < n) (h : RS σ μ L) (hgo : ∀ σ' μ' L', RS σ' μ' L' → ZL G X (cmb σ' μ', L') (LSt G b i) [] 1048) : ZL G X (cmb σ μ, L) (LSt G b i) [] 852 := by
  obtain ⟨r, s', m', L', hx, hy, hr⟩ := op_slips h (xs (i + 1)) (xs (i + 2))
  refine y_aload (k := 1) (n' := 1) (pc := 852) hX dL_law_852 rfl rfl ?_
  refine y_arg (j := 1) (pc := 853) hX hi (by omega) dL_law_853 dL_law_854 dL_law_855 dL_law_856 dL_law_857 rfl ?_
  refine y_arg (j := 2) (pc := 858) hX hi (by omega) dL_law_858 dL_law_859 dL_law_860 dL_law_861 dL_law_862 rfl ?_
  refine y_call (E := EC μ L) (σ := σ) (pc := 863) (As := [.int (xs (i + 1)), .int (xs (i + 2))]) (stk := []) hX rc_0 ⟨q_744, q_747, q_1⟩ q_745 q_746 lhd_X11_slips ⟨Nat.le_of_ble_eq_true rfl, Nat.le_of_ble_eq_true rfl⟩ (r' := (r, s')) (by rw [← hx]; exact c_T_slips hX.2.2.2.2.2.2.2.2.1 σ (xs (i + 1)) (xs (i + 2))) rfl rfl (Nat.le_of_ble_eq_true rfl) dL_law_863 ?_
  refine y_aload (k := 2) (n' := 2) (pc := 866) hX dL_law_866 rfl rfl ?_
  refine y_arg (j := 1) (pc := 867) hX hi (by omega) dL_law_867 dL_law_868 dL_law_869 dL_law_870 dL_law_871 rfl ?_
  refine y_arg (j := 2) (pc := 872) hX hi (by omega) dL_law_872 dL_law_873 dL_law_874 dL_law_875 dL_law_876 rfl ?_
  refine y_call (E := EL s') (σ := (μ, L)) (pc := 877) (As := [.int (xs (i + 1)), .int (xs (i + 2))]) (stk := [.int r]) hX rc_17 ⟨q_1217, q_1220, q_13⟩ q_1218 q_1219 lhd_X12_slips ⟨Nat.le_of_ble_eq_true rfl, Nat.le_of_ble_eq_true rfl⟩ (r' := (r, (m', L'))) (by rw [← hy]; exact c_m_slips hX.2.2.2.2.2.2.2.2.1 (μ, L) (xs (i + 1)) (xs (i + 2))) rfl rfl (Nat.le_of_ble_eq_true rfl) dL_law_877 ?_
  exact y_icmp (pc := 880) hX dL_law_880 rfl (hgo s' m' L' hr)
theorem lhd_X11_reigns : yX11_reigns.cls ≠ "java/lang/invoke/MethodHandle" ∧ yX11_reigns.cls ≠ "java/lang/invoke/VarHandle" ∧ (parseMethodDescriptor yX11_reigns.desc).map (fun d => d.parameters.length) = some 2 := by decide +kernel
theorem lhd_X12_reigns : yX12_reigns.cls ≠ "java/lang/invoke/MethodHandle" ∧ yX12_reigns.cls ≠ "java/lang/invoke/VarHandle" ∧ (parseMethodDescriptor yX12_reigns.desc).map (fun d => d.parameters.length) = some 2 := by decide +kernel
theorem law_27 {G : Gb} {X : CX} {l : Launch} {b n i : Nat} {xs : Nat → Int32} {σ μ : Sto} {L : Lng} (hX : OL G X l b n xs) (hi : i + 5 < n) (h : RS σ μ L) (hgo : ∀ σ' μ' L', RS σ' μ' L' → ZL G X (cmb σ' μ', L') (LSt G b i) [] 1048) : ZL G X (cmb σ μ, L) (LSt G b i) [] 885 := by
  obtain ⟨r, s', m', hx, hy, hr⟩ := op_reigns h (xs (i + 1)) (xs (i + 2))
  refine y_aload (k := 1) (n' := 1) (pc := 885) hX dL_law_885 rfl rfl ?_
  refine y_arg (j := 1) (pc := 886) hX hi (by omega) dL_law_886 dL_law_887 dL_law_888 dL_law_889 dL_law_890 rfl ?_
  refine y_arg (j := 2) (pc := 891) hX hi (by omega) dL_law_891 dL_law_892 dL_law_893 dL_law_894 dL_law_895 rfl ?_
  refine y_call (E := EC μ L) (σ := σ) (pc := 896) (As := [.int (xs (i + 1)), .int (xs (i + 2))]) (stk := []) hX rc_0 ⟨q_752, q_755, q_1⟩ q_753 q_754 lhd_X11_reigns ⟨Nat.le_of_ble_eq_true rfl, Nat.le_of_ble_eq_true rfl⟩ (r' := (r, s')) (by rw [← hx]; exact c_T_reigns hX.2.2.2.2.2.2.2.2.1 σ (xs (i + 1)) (xs (i + 2))) rfl rfl (Nat.le_of_ble_eq_true rfl) dL_law_896 ?_
  refine y_aload (k := 2) (n' := 2) (pc := 899) hX dL_law_899 rfl rfl ?_
  refine y_arg (j := 1) (pc := 900) hX hi (by omega) dL_law_900 dL_law_901 dL_law_902 dL_law_903 dL_law_904 rfl ?_
  refine y_arg (j := 2) (pc := 905) hX hi (by omega) dL_law_905 dL_law_906 dL_law_907 dL_law_908 dL_law_909 rfl ?_
  refine y_call (E := EM s' L) (σ := μ) (pc := 910) (As := [.int (xs (i + 1)), .int (xs (i + 2))]) (stk := [.int r]) hX rc_17 ⟨q_1226, q_1229, q_13⟩ q_1227 q_1228 lhd_X12_reigns ⟨Nat.le_of_ble_eq_true rfl, Nat.le_of_ble_eq_true rfl⟩ (r' := (r, m')) (by rw [← hy]; exact c_m_reigns hX.2.2.2.2.2.2.2.2.1 μ (xs (i + 1)) (xs (i + 2))) rfl rfl (Nat.le_of_ble_eq_true rfl) dL_law_910 ?_
  exact y_icmp (pc := 913) hX dL_law_913 rfl (hgo s' m' L hr)
theorem lhd_X11_part : yX11_part.cls ≠ "java/lang/invoke/MethodHandle" ∧ yX11_part.cls ≠ "java/lang/invoke/VarHandle" ∧ (parseMethodDescriptor yX11_part.desc).map (fun d => d.parameters.length) = some 1 := by decide +kernel
theorem lhd_X12_part : yX12_part.cls ≠ "java/lang/invoke/MethodHandle" ∧ yX12_part.cls ≠ "java/lang/invoke/VarHandle" ∧ (parseMethodDescriptor yX12_part.desc).map (fun d => d.parameters.length) = some 1 := by decide +kernel
theorem law_28 {G : Gb} {X : CX} {l : Launch} {b n i : Nat} {xs : Nat → Int32} {σ μ : Sto} {L : Lng} (hX : OL G X l b n xs) (hi : i + 5 < n) (h : RS σ μ L) (hgo : ∀ σ' μ' L', RS σ' μ' L' → ZL G X (cmb σ' μ', L') (LSt G b i) [] 1048) : ZL G X (cmb σ μ, L) (LSt G b i) [] 918 := by
  obtain ⟨r, s', m', L', hx, hy, hr⟩ := op_part h (xs (i + 1))
  refine y_aload (k := 1) (n' := 1) (pc := 918) hX dL_law_918 rfl rfl ?_
  refine y_arg (j := 1) (pc := 919) hX hi (by omega) dL_law_919 dL_law_920 dL_law_921 dL_law_922 dL_law_923 rfl ?_
  refine y_call (E := EC μ L) (σ := σ) (pc := 924) (As := [.int (xs (i + 1))]) (stk := []) hX rc_0 ⟨q_762, q_765, q_1⟩ q_763 q_764 lhd_X11_part ⟨Nat.le_of_ble_eq_true rfl, Nat.le_of_ble_eq_true rfl⟩ (r' := (r, s')) (by rw [← hx]; exact c_T_part hX.2.2.2.2.2.2.2.2.1 σ (xs (i + 1))) rfl rfl (Nat.le_of_ble_eq_true rfl) dL_law_924 ?_
  refine y_aload (k := 2) (n' := 2) (pc := 927) hX dL_law_927 rfl rfl ?_
  refine y_arg (j := 1) (pc := 928) hX hi (by omega) dL_law_928 dL_law_929 dL_law_930 dL_law_931 dL_law_932 rfl ?_
  refine y_call (E := EL s') (σ := (μ, L)) (pc := 933) (As := [.int (xs (i + 1))]) (stk := [.long r]) hX rc_17 ⟨q_1236, q_1239, q_13⟩ q_1237 q_1238 lhd_X12_part ⟨Nat.le_of_ble_eq_true rfl, Nat.le_of_ble_eq_true rfl⟩ (r' := (r, (m', L'))) (by rw [← hy]; exact c_m_part hX.2.2.2.2.2.2.2.2.1 (μ, L) (xs (i + 1))) rfl rfl (Nat.le_of_ble_eq_true rfl) dL_law_933 ?_
  refine y_lcmp (pc := 936) hX dL_law_936 ?_
  exact y_ifeq (pc := 937) hX dL_law_937 rfl (hgo s' m' L' hr)
theorem lhd_X11_image : yX11_image.cls ≠ "java/lang/invoke/MethodHandle" ∧ yX11_image.cls ≠ "java/lang/invoke/VarHandle" ∧ (parseMethodDescriptor yX11_image.desc).map (fun d => d.parameters.length) = some 1 := by decide +kernel
theorem lhd_X12_image : yX12_image.cls ≠ "java/lang/invoke/MethodHandle" ∧ yX12_image.cls ≠ "java/lang/invoke/VarHandle" ∧ (parseMethodDescriptor yX12_image.desc).map (fun d => d.parameters.length) = some 1 := by decide +kernel
theorem law_29 {G : Gb} {X : CX} {l : Launch} {b n i : Nat} {xs : Nat → Int32} {σ μ : Sto} {L : Lng} (hX : OL G X l b n xs) (hi : i + 5 < n) (h : RS σ μ L) (hgo : ∀ σ' μ' L', RS σ' μ' L' → ZL G X (cmb σ' μ', L') (LSt G b i) [] 1048) : ZL G X (cmb σ μ, L) (LSt G b i) [] 942 := by
  obtain ⟨r, s', m', hx, hy, hr⟩ := op_image h (xs (i + 1))
  refine y_aload (k := 1) (n' := 1) (pc := 942) hX dL_law_942 rfl rfl ?_
  refine y_arg (j := 1) (pc := 943) hX hi (by omega) dL_law_943 dL_law_944 dL_law_945 dL_law_946 dL_law_947 rfl ?_
  refine y_call (E := EC μ L) (σ := σ) (pc := 948) (As := [.int (xs (i + 1))]) (stk := []) hX rc_0 ⟨q_766, q_769, q_1⟩ q_767 q_768 lhd_X11_image ⟨Nat.le_of_ble_eq_true rfl, Nat.le_of_ble_eq_true rfl⟩ (r' := (r, s')) (by rw [← hx]; exact c_T_image hX.2.2.2.2.2.2.2.2.1 σ (xs (i + 1))) rfl rfl (Nat.le_of_ble_eq_true rfl) dL_law_948 ?_
  refine y_aload (k := 2) (n' := 2) (pc := 951) hX dL_law_951 rfl rfl ?_
  refine y_arg (j := 1) (pc := 952) hX hi (by omega) dL_law_952 dL_law_953 dL_law_954 dL_law_955 dL_law_956 rfl ?_
  refine y_call (E := EM s' L) (σ := μ) (pc := 957) (As := [.int (xs (i + 1))]) (stk := [.int r]) hX rc_17 ⟨q_1240, q_1243, q_13⟩ q_1241 q_1242 lhd_X12_image ⟨Nat.le_of_ble_eq_true rfl, Nat.le_of_ble_eq_true rfl⟩ (r' := (r, m')) (by rw [← hy]; exact c_m_image hX.2.2.2.2.2.2.2.2.1 μ (xs (i + 1))) rfl rfl (Nat.le_of_ble_eq_true rfl) dL_law_957 ?_
  exact y_icmp (pc := 960) hX dL_law_960 rfl (hgo s' m' L hr)
theorem lhd_X11_from : yX11_from.cls ≠ "java/lang/invoke/MethodHandle" ∧ yX11_from.cls ≠ "java/lang/invoke/VarHandle" ∧ (parseMethodDescriptor yX11_from.desc).map (fun d => d.parameters.length) = some 1 := by decide +kernel
theorem lhd_X12_from : yX12_from.cls ≠ "java/lang/invoke/MethodHandle" ∧ yX12_from.cls ≠ "java/lang/invoke/VarHandle" ∧ (parseMethodDescriptor yX12_from.desc).map (fun d => d.parameters.length) = some 1 := by decide +kernel
theorem law_30 {G : Gb} {X : CX} {l : Launch} {b n i : Nat} {xs : Nat → Int32} {σ μ : Sto} {L : Lng} (hX : OL G X l b n xs) (hi : i + 5 < n) (h : RS σ μ L) (hgo : ∀ σ' μ' L', RS σ' μ' L' → ZL G X (cmb σ' μ', L') (LSt G b i) [] 1048) : ZL G X (cmb σ μ, L) (LSt G b i) [] 965 := by
  obtain ⟨r, s', m', hx, hy, hr⟩ := op_from h (xs (i + 1))
  refine y_aload (k := 1) (n' := 1) (pc := 965) hX dL_law_965 rfl rfl ?_
  refine y_arg (j := 1) (pc := 966) hX hi (by omega) dL_law_966 dL_law_967 dL_law_968 dL_law_969 dL_law_970 rfl ?_
  refine y_call (E := EC μ L) (σ := σ) (pc := 971) (As := [.int (xs (i + 1))]) (stk := []) hX rc_0 ⟨q_770, q_773, q_1⟩ q_771 q_772 lhd_X11_from ⟨Nat.le_of_ble_eq_true rfl, Nat.le_of_ble_eq_true rfl⟩ (r' := (r, s')) (by rw [← hx]; exact c_T_from hX.2.2.2.2.2.2.2.2.1 σ (xs (i + 1))) rfl rfl (Nat.le_of_ble_eq_true rfl) dL_law_971 ?_
  refine y_aload (k := 2) (n' := 2) (pc := 974) hX dL_law_974 rfl rfl ?_
  refine y_arg (j := 1) (pc := 975) hX hi (by omega) dL_law_975 dL_law_976 dL_law_977 dL_law_978 dL_law_979 rfl ?_
  refine y_call (E := EM s' L) (σ := μ) (pc := 980) (As := [.int (xs (i + 1))]) (stk := [.int r]) hX rc_17 ⟨q_1244, q_1247, q_13⟩ q_1245 q_1246 lhd_X12_from ⟨Nat.le_of_ble_eq_true rfl, Nat.le_of_ble_eq_true rfl⟩ (r' := (r, m')) (by rw [← hy]; exact c_m_from hX.2.2.2.2.2.2.2.2.1 μ (xs (i + 1))) rfl rfl (Nat.le_of_ble_eq_true rfl) dL_law_980 ?_
  exact y_icmp (pc := 983) hX dL_law_983 rfl (hgo s' m' L hr)
theorem lhd_X11_status : yX11_status.cls ≠ "java/lang/invoke/MethodHandle" ∧ yX11_status.cls ≠ "java/lang/invoke/VarHandle" ∧ (parseMethodDescriptor yX11_status.desc).map (fun d => d.parameters.length) = some 1 := by decide +kernel
theorem lhd_X12_status : yX12_status.cls ≠ "java/lang/invoke/MethodHandle" ∧ yX12_status.cls ≠ "java/lang/invoke/VarHandle" ∧ (parseMethodDescriptor yX12_status.desc).map (fun d => d.parameters.length) = some 1 := by decide +kernel
theorem law_31 {G : Gb} {X : CX} {l : Launch} {b n i : Nat} {xs : Nat → Int32} {σ μ : Sto} {L : Lng} (hX : OL G X l b n xs) (hi : i + 5 < n) (h : RS σ μ L) (hgo : ∀ σ' μ' L', RS σ' μ' L' → ZL G X (cmb σ' μ', L') (LSt G b i) [] 1048) : ZL G X (cmb σ μ, L) (LSt G b i) [] 988 := by
  obtain ⟨r, s', m', hx, hy, hr⟩ := op_status h (xs (i + 1))
  refine y_aload (k := 1) (n' := 1) (pc := 988) hX dL_law_988 rfl rfl ?_
  refine y_arg (j := 1) (pc := 989) hX hi (by omega) dL_law_989 dL_law_990 dL_law_991 dL_law_992 dL_law_993 rfl ?_
  refine y_call (E := EC μ L) (σ := σ) (pc := 994) (As := [.int (xs (i + 1))]) (stk := []) hX rc_0 ⟨q_774, q_777, q_1⟩ q_775 q_776 lhd_X11_status ⟨Nat.le_of_ble_eq_true rfl, Nat.le_of_ble_eq_true rfl⟩ (r' := (r, s')) (by rw [← hx]; exact c_T_status hX.2.2.2.2.2.2.2.2.1 σ (xs (i + 1))) rfl rfl (Nat.le_of_ble_eq_true rfl) dL_law_994 ?_
  refine y_aload (k := 2) (n' := 2) (pc := 997) hX dL_law_997 rfl rfl ?_
  refine y_arg (j := 1) (pc := 998) hX hi (by omega) dL_law_998 dL_law_999 dL_law_1000 dL_law_1001 dL_law_1002 rfl ?_
  refine y_call (E := EM s' L) (σ := μ) (pc := 1003) (As := [.int (xs (i + 1))]) (stk := [.int r]) hX rc_17 ⟨q_1248, q_1251, q_13⟩ q_1249 q_1250 lhd_X12_status ⟨Nat.le_of_ble_eq_true rfl, Nat.le_of_ble_eq_true rfl⟩ (r' := (r, m')) (by rw [← hy]; exact c_m_status hX.2.2.2.2.2.2.2.2.1 μ (xs (i + 1))) rfl rfl (Nat.le_of_ble_eq_true rfl) dL_law_1003 ?_
  exact y_icmp (pc := 1006) hX dL_law_1006 rfl (hgo s' m' L hr)
theorem lhd_X11_count : yX11_count.cls ≠ "java/lang/invoke/MethodHandle" ∧ yX11_count.cls ≠ "java/lang/invoke/VarHandle" ∧ (parseMethodDescriptor yX11_count.desc).map (fun d => d.parameters.length) = some 1 := by decide +kernel
theorem lhd_X12_count : yX12_count.cls ≠ "java/lang/invoke/MethodHandle" ∧ yX12_count.cls ≠ "java/lang/invoke/VarHandle" ∧ (parseMethodDescriptor yX12_count.desc).map (fun d => d.parameters.length) = some 1 := by decide +kernel
theorem law_32 {G : Gb} {X : CX} {l : Launch} {b n i : Nat} {xs : Nat → Int32} {σ μ : Sto} {L : Lng} (hX : OL G X l b n xs) (hi : i + 5 < n) (h : RS σ μ L) (hgo : ∀ σ' μ' L', RS σ' μ' L' → ZL G X (cmb σ' μ', L') (LSt G b i) [] 1048) : ZL G X (cmb σ μ, L) (LSt G b i) [] 1011 := by
  obtain ⟨r, s', m', hx, hy, hr⟩ := op_count h (xs (i + 1))
  refine y_aload (k := 1) (n' := 1) (pc := 1011) hX dL_law_1011 rfl rfl ?_
  refine y_arg (j := 1) (pc := 1012) hX hi (by omega) dL_law_1012 dL_law_1013 dL_law_1014 dL_law_1015 dL_law_1016 rfl ?_
  refine y_call (E := EC μ L) (σ := σ) (pc := 1017) (As := [.int (xs (i + 1))]) (stk := []) hX rc_0 ⟨q_778, q_781, q_1⟩ q_779 q_780 lhd_X11_count ⟨Nat.le_of_ble_eq_true rfl, Nat.le_of_ble_eq_true rfl⟩ (r' := (r, s')) (by rw [← hx]; exact c_T_count hX.2.2.2.2.2.2.2.2.1 σ (xs (i + 1))) rfl rfl (Nat.le_of_ble_eq_true rfl) dL_law_1017 ?_
  refine y_aload (k := 2) (n' := 2) (pc := 1020) hX dL_law_1020 rfl rfl ?_
  refine y_arg (j := 1) (pc := 1021) hX hi (by omega) dL_law_1021 dL_law_1022 dL_law_1023 dL_law_1024 dL_law_1025 rfl ?_
  refine y_call (E := EM s' L) (σ := μ) (pc := 1026) (As := [.int (xs (i + 1))]) (stk := [.int r]) hX rc_17 ⟨q_1252, q_1255, q_13⟩ q_1253 q_1254 lhd_X12_count ⟨Nat.le_of_ble_eq_true rfl, Nat.le_of_ble_eq_true rfl⟩ (r' := (r, m')) (by rw [← hy]; exact c_m_count hX.2.2.2.2.2.2.2.2.1 μ (xs (i + 1))) rfl rfl (Nat.le_of_ble_eq_true rfl) dL_law_1026 ?_
  exact y_icmp (pc := 1029) hX dL_law_1029 rfl (hgo s' m' L hr)
theorem lhd_X11_digest : yX11_digest.cls ≠ "java/lang/invoke/MethodHandle" ∧ yX11_digest.cls ≠ "java/lang/invoke/VarHandle" ∧ (parseMethodDescriptor yX11_digest.desc).map (fun d => d.parameters.length) = some 0 := by decide +kernel
theorem lhd_X12_digest : yX12_digest.cls ≠ "java/lang/invoke/MethodHandle" ∧ yX12_digest.cls ≠ "java/lang/invoke/VarHandle" ∧ (parseMethodDescriptor yX12_digest.desc).map (fun d => d.parameters.length) = some 0 := by decide +kernel
theorem law_33 {G : Gb} {X : CX} {l : Launch} {b n i : Nat} {xs : Nat → Int32} {σ μ : Sto} {L : Lng} (hX : OL G X l b n xs) (hi : i + 5 < n) (h : RS σ μ L) (hgo : ∀ σ' μ' L', RS σ' μ' L' → ZL G X (cmb σ' μ', L') (LSt G b i) [] 1048) : ZL G X (cmb σ μ, L) (LSt G b i) [] 1034 := by
  obtain ⟨r, m', L', hx, hy, hr⟩ := op_digest h 
  refine y_aload (k := 1) (n' := 1) (pc := 1034) hX dL_law_1034 rfl rfl ?_
  refine y_call (E := EC μ L) (σ := σ) (pc := 1035) (As := []) (stk := []) hX rc_0 ⟨q_786, q_789, q_1⟩ q_787 q_788 lhd_X11_digest ⟨Nat.le_of_ble_eq_true rfl, Nat.le_of_ble_eq_true rfl⟩ (r' := r) (by rw [← hx]; exact c_T_digest hX.2.2.2.2.2.2.2.2.1 σ ) rfl rfl (Nat.le_of_ble_eq_true rfl) dL_law_1035 ?_
  refine y_aload (k := 2) (n' := 2) (pc := 1038) hX dL_law_1038 rfl rfl ?_
  refine y_call (E := EL σ) (σ := (μ, L)) (pc := 1039) (As := []) (stk := [.long r]) hX rc_17 ⟨q_1260, q_1263, q_13⟩ q_1261 q_1262 lhd_X12_digest ⟨Nat.le_of_ble_eq_true rfl, Nat.le_of_ble_eq_true rfl⟩ (r' := (r, (m', L'))) (by rw [← hy]; exact c_m_digest hX.2.2.2.2.2.2.2.2.1 (μ, L) ) rfl rfl (Nat.le_of_ble_eq_true rfl) dL_law_1039 ?_
  refine y_lcmp (pc := 1042) hX dL_law_1042 ?_
  exact y_ifeq (pc := 1043) hX dL_law_1043 rfl (hgo σ m' L' hr)
set_option maxRecDepth 100000 in
theorem law_sw {G : Gb} {X : CX} {l : Launch} {b n i : Nat} {xs : Nat → Int32} {σ μ : Sto} {L : Lng} (hX : OL G X l b n xs) (hi : i + 5 < n) (h : RS σ μ L) (hgo : ∀ σ' μ' L', RS σ' μ' L' → ZL G X (cmb σ' μ', L') (LSt G b i) [] 1048) {v : Nat} (hv : v < 64) : ZL G X (cmb σ μ, L) (LSt G b i) [.int (nI v)] 33 := by
  rcases (show v = 0 ∨ v = 1 ∨ v = 2 ∨ v = 3 ∨ v = 4 ∨ v = 5 ∨ v = 6 ∨ v = 7 ∨ v = 8 ∨ v = 9 ∨ v = 10 ∨ v = 11 ∨ v = 12 ∨ v = 13 ∨ v = 14 ∨ v = 15 ∨ v = 16 ∨ v = 17 ∨ v = 18 ∨ v = 19 ∨ v = 20 ∨ v = 21 ∨ v = 22 ∨ v = 23 ∨ v = 24 ∨ v = 25 ∨ v = 26 ∨ v = 27 ∨ v = 28 ∨ v = 29 ∨ v = 30 ∨ v = 31 ∨ v = 32 ∨ v = 33 ∨ 34 ≤ v by omega) with rfl | rfl | rfl | rfl | rfl | rfl | rfl | rfl | rfl | rfl | rfl | rfl | rfl | rfl | rfl | rfl | rfl | rfl | rfl | rfl | rfl | rfl | rfl | rfl | rfl | rfl | rfl | rfl | rfl | rfl | rfl | rfl | rfl | rfl | hv2
  · exact y_tabIn (tgt := 184) hX dL_law_33 (by decide +kernel) (by decide +kernel) (off := 151) (by decide +kernel) rfl (law_0 hX hi h hgo)
  · exact y_tabIn (tgt := 207) hX dL_law_33 (by decide +kernel) (by decide +kernel) (off := 174) (by decide +kernel) rfl (law_1 hX hi h hgo)
  · exact y_tabIn (tgt := 260) hX dL_law_33 (by decide +kernel) (by decide +kernel) (off := 227) (by decide +kernel) rfl (law_2 hX hi h hgo)
  · exact y_tabIn (tgt := 283) hX dL_law_33 (by decide +kernel) (by decide +kernel) (off := 250) (by decide +kernel) rfl (law_3 hX hi h hgo)
  · exact y_tabIn (tgt := 296) hX dL_law_33 (by decide +kernel) (by decide +kernel) (off := 263) (by decide +kernel) rfl (law_4 hX hi h hgo)
  · exact y_tabIn (tgt := 309) hX dL_law_33 (by decide +kernel) (by decide +kernel) (off := 276) (by decide +kernel) rfl (law_5 hX hi h hgo)
  · exact y_tabIn (tgt := 342) hX dL_law_33 (by decide +kernel) (by decide +kernel) (off := 309) (by decide +kernel) rfl (law_6 hX hi h hgo)
  · exact y_tabIn (tgt := 365) hX dL_law_33 (by decide +kernel) (by decide +kernel) (off := 332) (by decide +kernel) rfl (law_7 hX hi h hgo)
  · exact y_tabIn (tgt := 388) hX dL_law_33 (by decide +kernel) (by decide +kernel) (off := 355) (by decide +kernel) rfl (law_8 hX hi h hgo)
  · exact y_tabIn (tgt := 411) hX dL_law_33 (by decide +kernel) (by decide +kernel) (off := 378) (by decide +kernel) rfl (law_9 hX hi h hgo)
  · exact y_tabIn (tgt := 424) hX dL_law_33 (by decide +kernel) (by decide +kernel) (off := 391) (by decide +kernel) rfl (law_10 hX hi h hgo)
  · exact y_tabIn (tgt := 457) hX dL_law_33 (by decide +kernel) (by decide +kernel) (off := 424) (by decide +kernel) rfl (law_11 hX hi h hgo)
  · exact y_tabIn (tgt := 480) hX dL_law_33 (by decide +kernel) (by decide +kernel) (off := 447) (by decide +kernel) rfl (law_12 hX hi h hgo)
  · exact y_tabIn (tgt := 503) hX dL_law_33 (by decide +kernel) (by decide +kernel) (off := 470) (by decide +kernel) rfl (law_13 hX hi h hgo)
  · exact y_tabIn (tgt := 526) hX dL_law_33 (by decide +kernel) (by decide +kernel) (off := 493) (by decide +kernel) rfl (law_14 hX hi h hgo)
  · exact y_tabIn (tgt := 539) hX dL_law_33 (by decide +kernel) (by decide +kernel) (off := 506) (by decide +kernel) rfl (law_15 hX hi h hgo)
  · exact y_tabIn (tgt := 562) hX dL_law_33 (by decide +kernel) (by decide +kernel) (off := 529) (by decide +kernel) rfl (law_16 hX hi h hgo)
  · exact y_tabIn (tgt := 595) hX dL_law_33 (by decide +kernel) (by decide +kernel) (off := 562) (by decide +kernel) rfl (law_17 hX hi h hgo)
  · exact y_tabIn (tgt := 618) hX dL_law_33 (by decide +kernel) (by decide +kernel) (off := 585) (by decide +kernel) rfl (law_18 hX hi h hgo)
  · exact y_tabIn (tgt := 651) hX dL_law_33 (by decide +kernel) (by decide +kernel) (off := 618) (by decide +kernel) rfl (law_19 hX hi h hgo)
  · exact y_tabIn (tgt := 674) hX dL_law_33 (by decide +kernel) (by decide +kernel) (off := 641) (by decide +kernel) rfl (law_20 hX hi h hgo)
  · exact y_tabIn (tgt := 737) hX dL_law_33 (by decide +kernel) (by decide +kernel) (off := 704) (by decide +kernel) rfl (law_21 hX hi h hgo)
  · exact y_tabIn (tgt := 750) hX dL_law_33 (by decide +kernel) (by decide +kernel) (off := 717) (by decide +kernel) rfl (law_22 hX hi h hgo)
  · exact y_tabIn (tgt := 773) hX dL_law_33 (by decide +kernel) (by decide +kernel) (off := 740) (by decide +kernel) rfl (law_23 hX hi h hgo)
  · exact y_tabIn (tgt := 806) hX dL_law_33 (by decide +kernel) (by decide +kernel) (off := 773) (by decide +kernel) rfl (law_24 hX hi h hgo)
  · exact y_tabIn (tgt := 829) hX dL_law_33 (by decide +kernel) (by decide +kernel) (off := 796) (by decide +kernel) rfl (law_25 hX hi h hgo)
  · exact y_tabIn (tgt := 852) hX dL_law_33 (by decide +kernel) (by decide +kernel) (off := 819) (by decide +kernel) rfl (law_26 hX hi h hgo)
  · exact y_tabIn (tgt := 885) hX dL_law_33 (by decide +kernel) (by decide +kernel) (off := 852) (by decide +kernel) rfl (law_27 hX hi h hgo)
  · exact y_tabIn (tgt := 918) hX dL_law_33 (by decide +kernel) (by decide +kernel) (off := 885) (by decide +kernel) rfl (law_28 hX hi h hgo)
  · exact y_tabIn (tgt := 942) hX dL_law_33 (by decide +kernel) (by decide +kernel) (off := 909) (by decide +kernel) rfl (law_29 hX hi h hgo)
  · exact y_tabIn (tgt := 965) hX dL_law_33 (by decide +kernel) (by decide +kernel) (off := 932) (by decide +kernel) rfl (law_30 hX hi h hgo)
  · exact y_tabIn (tgt := 988) hX dL_law_33 (by decide +kernel) (by decide +kernel) (off := 955) (by decide +kernel) rfl (law_31 hX hi h hgo)
  · exact y_tabIn (tgt := 1011) hX dL_law_33 (by decide +kernel) (by decide +kernel) (off := 978) (by decide +kernel) rfl (law_32 hX hi h hgo)
  · exact y_tabIn (tgt := 1034) hX dL_law_33 (by decide +kernel) (by decide +kernel) (off := 1001) (by decide +kernel) rfl (law_33 hX hi h hgo)
  · exact y_tabOut (tgt := 1048) hX dL_law_33 (Or.inr (by rw [nI_toInt (by omega)]; omega)) rfl (hgo _ _ _ h)
