/-! the law's cases: the class is asked, then the reference, and both answer alike (f_Lc_n is none where they don't) -/
section LawR
variable {E : Ev} {X : Xt} {Q : State → Prop} {n : Nat} {pc : Nat} {ls : List (Nat × Value)} {st : List Value} {z : Sh} {J : MJ} {I : MI} {uc us : Nat} {cc : ByteArray} {ret : Option FieldType} {own : String} {b L : Nat} {xs : Nat → Int32}
/-- the script -/
def Scr (E : Ev) (X : Xt) (b L : Nat) (xs : Nat → Int32) : Prop := va_X b L xs (xS X) (xS X).heap ∧ b < (xS X).heap.size ∧ ¬ aB E b
theorem g_sldE (hX : Cx E X cc n ret own) (hsc : Scr E X b L xs) {i v : Int32} (h : rd L xs i = some v) (hd : decode cc pc = .ok (.iaload, 1)) (kk : GW E X Q n (pc + 1) ls (.int v :: st) z J I uc us) : GW E X Q n pc ls (.int i :: .ref b :: st) z J I uc us := by
  obtain ⟨hi, rfl⟩ := rd_some h
  exact fun H locs lsA hR hS hl => va_sld hX.ex hX.cd hsc.1 hsc.2.1 hsc.2.2 hS hi hd (kk H locs lsA hR hS hl)
theorem g_slen (hX : Cx E X cc n ret own) (hsc : Scr E X b L xs) (hd : decode cc pc = .ok (.arraylength, 1)) (kk : GW E X Q n (pc + 1) ls (.int (Int32.ofNat L) :: st) z J I uc us) : GW E X Q n pc ls (.ref b :: st) z J I uc us :=
  fun H locs lsA hR hS hl => va_slen hX.ex hX.cd hsc.1 hsc.2.1 hsc.2.2 hS hd (kk H locs lsA hR hS hl)
end LawR
noncomputable def f_Lc_0 (x t u m L : Nat) (xs : Nat → Int32) (i : Int32) (z : Sh) (J : MJ) (I : MI) : Option (Sh × MJ × MI) :=
  (rd L xs (i + 1)).bind fun v1 =>
  (rd L xs (i + 2)).bind fun v2 =>
  (rd L xs (i + 3)).bind fun v3 =>
  (rd L xs (i + 4)).bind fun v4 =>
  (rd L xs (i + 5)).bind fun v5 =>
  (f_X4_feed x t u v1 v2 v3 v4 v5 I).bind fun r6 =>
  (rd L xs (i + 1)).bind fun v7 =>
  (rd L xs (i + 2)).bind fun v8 =>
  (rd L xs (i + 3)).bind fun v9 =>
  (rd L xs (i + 4)).bind fun v10 =>
  (rd L xs (i + 5)).bind fun v11 =>
  (f_X5_feed m v7 v8 v9 v10 v11 J r6.2).bind fun r12 =>
  if r6.1 = r12.1 then
    some ((z, J, r12.2))
  else
    none
set_option maxRecDepth 100000 in
set_option maxHeartbeats 4000000 in
theorem lc_0 {E : Ev} {X : Xt} {Q : State → Prop} {b x t u m o L : Nat} {xs : Nat → Int32} {i : Int32} {z : Sh} {J : MJ} {I : MI} {uc us d : Nat} {zz : Sh} {Jz : MJ} {Iz : MI} (hX : Cx E X cL_law 7 (some .boolean) RL) (hr0 : RmOk X (d + 41) 601024 7293034) (hu : uc + 10 ≤ 601024 ∧ us + 2127 ≤ 7293034) (hsc : Scr E X b L xs) (hx : oX4 z x t u) (hm : oX5 z m) (h : f_Lc_0 x t u m L xs i z J I = some (zz, Jz, Iz)) (K : GW E X Q 7 982 [(0, .ref b), (1, .ref x), (2, .ref m), (3, .ref o), (4, .int i)] [] zz Jz Iz (uc + 10) (us + 2127)) : GW E X Q 7 164 [(0, .ref b), (1, .ref x), (2, .ref m), (3, .ref o), (4, .int i)] [] z J I uc us := by
  unfold f_Lc_0 at h
  have KZ : ∀ q : Sh × MJ × MI, q = (zz, Jz, Iz) → GW E X Q 7 982 [(0, .ref b), (1, .ref x), (2, .ref m), (3, .ref o), (4, .int i)] [] q.1 q.2.1 q.2.2 (uc + 10) (us + 2127) := by intro q hq; subst hq; exact K
  refine g_aload_n hX (pc := 164) (i := 1) dL_law_164 rfl 1 rfl ?_
  refine g_aload_n hX (pc := 165) (i := 0) dL_law_165 rfl 0 rfl ?_
  refine g_iload hX (pc := 166) dL_law_166 4 rfl ?_
  refine g_iconst hX (pc := 168) (v := 1) dL_law_168 (by decide) ?_
  refine g_iadd hX (pc := 169) dL_law_169 ?_
  obtain ⟨v1, e_v1, h⟩ := bnd h
  refine g_sldE hX (pc := 170) hsc e_v1 dL_law_170 ?_
  refine g_aload_n hX (pc := 171) (i := 0) dL_law_171 rfl 0 rfl ?_
  refine g_iload hX (pc := 172) dL_law_172 4 rfl ?_
  refine g_iconst hX (pc := 174) (v := 2) dL_law_174 (by decide) ?_
  refine g_iadd hX (pc := 175) dL_law_175 ?_
  obtain ⟨v2, e_v2, h⟩ := bnd h
  refine g_sldE hX (pc := 176) hsc e_v2 dL_law_176 ?_
  refine g_aload_n hX (pc := 177) (i := 0) dL_law_177 rfl 0 rfl ?_
  refine g_iload hX (pc := 178) dL_law_178 4 rfl ?_
  refine g_iconst hX (pc := 180) (v := 3) dL_law_180 (by decide) ?_
  refine g_iadd hX (pc := 181) dL_law_181 ?_
  obtain ⟨v3, e_v3, h⟩ := bnd h
  refine g_sldE hX (pc := 182) hsc e_v3 dL_law_182 ?_
  refine g_aload_n hX (pc := 183) (i := 0) dL_law_183 rfl 0 rfl ?_
  refine g_iload hX (pc := 184) dL_law_184 4 rfl ?_
  refine g_iconst hX (pc := 186) (v := 4) dL_law_186 (by decide) ?_
  refine g_iadd hX (pc := 187) dL_law_187 ?_
  obtain ⟨v4, e_v4, h⟩ := bnd h
  refine g_sldE hX (pc := 188) hsc e_v4 dL_law_188 ?_
  refine g_aload_n hX (pc := 189) (i := 0) dL_law_189 rfl 0 rfl ?_
  refine g_iload hX (pc := 190) dL_law_190 4 rfl ?_
  refine g_iconst hX (pc := 192) (v := 5) dL_law_192 (by decide) ?_
  refine g_iadd hX (pc := 193) dL_law_193 ?_
  obtain ⟨v5, e_v5, h⟩ := bnd h
  refine g_sldE hX (pc := 194) hsc e_v5 dL_law_194 ?_
  obtain ⟨r6, e_r6, h⟩ := bnd h
  refine g_callVi hX (pc := 195) (d := d + 40) hr0 [.int v1, .int v2, .int v3, .int v4, .int v5] (c := 4) (ct_X4_feed (d := d + 39) hx e_r6) hx.1.1 hx.1.2 (by decide) rfl co_X4_feed ml_L_19 im_X4_feed sl_X4_feed ini_X4 nm_X4_feed (by decide) (by omega) (Nat.le_refl _) (Nat.le_of_ble_eq_true rfl) rfl dL_law_195 ?_
  refine g_aload_n hX (pc := 198) (i := 2) dL_law_198 rfl 2 rfl ?_
  refine g_aload_n hX (pc := 199) (i := 0) dL_law_199 rfl 0 rfl ?_
  refine g_iload hX (pc := 200) dL_law_200 4 rfl ?_
  refine g_iconst hX (pc := 202) (v := 1) dL_law_202 (by decide) ?_
  refine g_iadd hX (pc := 203) dL_law_203 ?_
  obtain ⟨v7, e_v7, h⟩ := bnd h
  refine g_sldE hX (pc := 204) hsc e_v7 dL_law_204 ?_
  refine g_aload_n hX (pc := 205) (i := 0) dL_law_205 rfl 0 rfl ?_
  refine g_iload hX (pc := 206) dL_law_206 4 rfl ?_
  refine g_iconst hX (pc := 208) (v := 2) dL_law_208 (by decide) ?_
  refine g_iadd hX (pc := 209) dL_law_209 ?_
  obtain ⟨v8, e_v8, h⟩ := bnd h
  refine g_sldE hX (pc := 210) hsc e_v8 dL_law_210 ?_
  refine g_aload_n hX (pc := 211) (i := 0) dL_law_211 rfl 0 rfl ?_
  refine g_iload hX (pc := 212) dL_law_212 4 rfl ?_
  refine g_iconst hX (pc := 214) (v := 3) dL_law_214 (by decide) ?_
  refine g_iadd hX (pc := 215) dL_law_215 ?_
  obtain ⟨v9, e_v9, h⟩ := bnd h
  refine g_sldE hX (pc := 216) hsc e_v9 dL_law_216 ?_
  refine g_aload_n hX (pc := 217) (i := 0) dL_law_217 rfl 0 rfl ?_
  refine g_iload hX (pc := 218) dL_law_218 4 rfl ?_
  refine g_iconst hX (pc := 220) (v := 4) dL_law_220 (by decide) ?_
  refine g_iadd hX (pc := 221) dL_law_221 ?_
  obtain ⟨v10, e_v10, h⟩ := bnd h
  refine g_sldE hX (pc := 222) hsc e_v10 dL_law_222 ?_
  refine g_aload_n hX (pc := 223) (i := 0) dL_law_223 rfl 0 rfl ?_
  refine g_iload hX (pc := 224) dL_law_224 4 rfl ?_
  refine g_iconst hX (pc := 226) (v := 5) dL_law_226 (by decide) ?_
  refine g_iadd hX (pc := 227) dL_law_227 ?_
  obtain ⟨v11, e_v11, h⟩ := bnd h
  refine g_sldE hX (pc := 228) hsc e_v11 dL_law_228 ?_
  obtain ⟨r12, e_r12, h⟩ := bnd h
  refine g_callVi hX (pc := 229) (d := d + 40) hr0 [.int v7, .int v8, .int v9, .int v10, .int v11] (c := 5) (ct_X5_feed (d := d + 39) hm e_r12) hm.1.1 hm.1.2 (by decide) rfl co_X5_feed ml_L_23 im_X5_feed sl_X5_feed ini_X5 nm_X5_feed (by decide) (by omega) (Nat.le_refl _) (Nat.le_of_ble_eq_true rfl) rfl dL_law_229 ?_
  refine g_icmp_eq hX (pc := 232) dL_law_232 (tgt := 982) (by decide) (fun c13 => ?_) (fun c13 => ?_)
  · replace h := ifP c13 h
    refine g_widen (kc := uc + 10) (ks := us + 2127) (by omega) (by omega) ?_
    exact KZ ((z, J, r12.2)) (Option.some.inj h)
  · replace h := ifN c13 h
    refine g_iconst hX (pc := 235) (v := 0) dL_law_235 (by decide) ?_
    cases h
noncomputable def f_Lc_1 (x t u m L : Nat) (xs : Nat → Int32) (i : Int32) (z : Sh) (J : MJ) (I : MI) : Option (Sh × MJ × MI) :=
  (rd L xs (i + 1)).bind fun v1 =>
  (f_X4_wall x t u v1 z I).bind fun r2 =>
  (gd (zs z ≤ zs r2.2.1)).bind fun g3 =>
  (gd (oX5 r2.2.1 m)).bind fun g4 =>
  (rd L xs (i + 1)).bind fun v5 =>
  (f_X5_wall m v5 J r2.2.2).bind fun r6 =>
  if r2.1 = r6.1 then
    some ((r2.2.1, r6.2.1, r6.2.2))
  else
    none
set_option maxRecDepth 100000 in
set_option maxHeartbeats 4000000 in
theorem lc_1 {E : Ev} {X : Xt} {Q : State → Prop} {b x t u m o L : Nat} {xs : Nat → Int32} {i : Int32} {z : Sh} {J : MJ} {I : MI} {uc us d : Nat} {zz : Sh} {Jz : MJ} {Iz : MI} (hX : Cx E X cL_law 7 (some .boolean) RL) (hr0 : RmOk X (d + 41) 601024 7293034) (hu : uc + 10 ≤ 601024 ∧ us + 2127 ≤ 7293034) (hsc : Scr E X b L xs) (hx : oX4 z x t u) (hm : oX5 z m) {ad av : Nat → Nat} (hE : EvOk E ad av) (h : f_Lc_1 x t u m L xs i z J I = some (zz, Jz, Iz)) (K : GW E X Q 7 982 [(0, .ref b), (1, .ref x), (2, .ref m), (3, .ref o), (4, .int i)] [] zz Jz Iz (uc + 10) (us + 2127)) : GW E X Q 7 237 [(0, .ref b), (1, .ref x), (2, .ref m), (3, .ref o), (4, .int i)] [] z J I uc us := by
  unfold f_Lc_1 at h
  have KZ : ∀ q : Sh × MJ × MI, q = (zz, Jz, Iz) → GW E X Q 7 982 [(0, .ref b), (1, .ref x), (2, .ref m), (3, .ref o), (4, .int i)] [] q.1 q.2.1 q.2.2 (uc + 10) (us + 2127) := by intro q hq; subst hq; exact K
  refine g_aload_n hX (pc := 237) (i := 1) dL_law_237 rfl 1 rfl ?_
  refine g_aload_n hX (pc := 238) (i := 0) dL_law_238 rfl 0 rfl ?_
  refine g_iload hX (pc := 239) dL_law_239 4 rfl ?_
  refine g_iconst hX (pc := 241) (v := 1) dL_law_241 (by decide) ?_
  refine g_iadd hX (pc := 242) dL_law_242 ?_
  obtain ⟨v1, e_v1, h⟩ := bnd h
  refine g_sldE hX (pc := 243) hsc e_v1 dL_law_243 ?_
  obtain ⟨r2, e_r2, h⟩ := bnd h
  obtain ⟨g3, e_g3, h⟩ := bnd h
  refine g_callVi hX (pc := 244) (d := d + 40) hr0 [.int v1] (c := 4) (ct_X4_wall (d := d + 34) hx e_r2) hx.1.1 hx.1.2 (by decide) rfl co_X4_wall ml_L_24 im_X4_wall sl_X4_wall ini_X4 nm_X4_wall (by decide) (by omega) (gd_some e_g3) (Nat.le_of_ble_eq_true rfl) rfl dL_law_244 ?_
  obtain ⟨g4, e_g4, h⟩ := bnd h
  refine g_aload_n hX (pc := 247) (i := 2) dL_law_247 rfl 2 rfl ?_
  refine g_aload_n hX (pc := 248) (i := 0) dL_law_248 rfl 0 rfl ?_
  refine g_iload hX (pc := 249) dL_law_249 4 rfl ?_
  refine g_iconst hX (pc := 251) (v := 1) dL_law_251 (by decide) ?_
  refine g_iadd hX (pc := 252) dL_law_252 ?_
  obtain ⟨v5, e_v5, h⟩ := bnd h
  refine g_sldE hX (pc := 253) hsc e_v5 dL_law_253 ?_
  obtain ⟨r6, e_r6, h⟩ := bnd h
  refine g_callVi hX (pc := 254) (d := d + 40) hr0 [.int v5] (c := 5) (ct_X5_wall (d := d + 30) (gd_some e_g4) e_r6 hE) (gd_some e_g4).1.1 (gd_some e_g4).1.2 (by decide) rfl co_X5_wall ml_L_28 im_X5_wall sl_X5_wall ini_X5 nm_X5_wall (by decide) (by omega) (Nat.le_refl _) (Nat.le_of_ble_eq_true rfl) rfl dL_law_254 ?_
  refine g_icmp_eq hX (pc := 257) dL_law_257 (tgt := 982) (by decide) (fun c7 => ?_) (fun c7 => ?_)
  · replace h := ifP c7 h
    refine g_widen (kc := uc + 10) (ks := us + 2127) (by omega) (by omega) ?_
    exact KZ ((r2.2.1, r6.2.1, r6.2.2)) (Option.some.inj h)
  · replace h := ifN c7 h
    refine g_iconst hX (pc := 260) (v := 0) dL_law_260 (by decide) ?_
    cases h
noncomputable def f_Lc_2 (x t u m L : Nat) (xs : Nat → Int32) (i : Int32) (z : Sh) (J : MJ) (I : MI) : Option (Sh × MJ × MI) :=
  (rd L xs (i + 1)).bind fun v1 =>
  (rd L xs (i + 2)).bind fun v2 =>
  (f_X4_item x t u v1 v2 I).bind fun r3 =>
  (rd L xs (i + 1)).bind fun v4 =>
  (rd L xs (i + 2)).bind fun v5 =>
  (f_X5_item m v4 v5 J I).bind fun r6 =>
  if r3 = r6.1 then
    some ((z, J, r6.2))
  else
    none
set_option maxRecDepth 100000 in
set_option maxHeartbeats 4000000 in
theorem lc_2 {E : Ev} {X : Xt} {Q : State → Prop} {b x t u m o L : Nat} {xs : Nat → Int32} {i : Int32} {z : Sh} {J : MJ} {I : MI} {uc us d : Nat} {zz : Sh} {Jz : MJ} {Iz : MI} (hX : Cx E X cL_law 7 (some .boolean) RL) (hr0 : RmOk X (d + 41) 601024 7293034) (hu : uc + 10 ≤ 601024 ∧ us + 2127 ≤ 7293034) (hsc : Scr E X b L xs) (hx : oX4 z x t u) (hm : oX5 z m) (h : f_Lc_2 x t u m L xs i z J I = some (zz, Jz, Iz)) (K : GW E X Q 7 982 [(0, .ref b), (1, .ref x), (2, .ref m), (3, .ref o), (4, .int i)] [] zz Jz Iz (uc + 10) (us + 2127)) : GW E X Q 7 262 [(0, .ref b), (1, .ref x), (2, .ref m), (3, .ref o), (4, .int i)] [] z J I uc us := by
  unfold f_Lc_2 at h
  have KZ : ∀ q : Sh × MJ × MI, q = (zz, Jz, Iz) → GW E X Q 7 982 [(0, .ref b), (1, .ref x), (2, .ref m), (3, .ref o), (4, .int i)] [] q.1 q.2.1 q.2.2 (uc + 10) (us + 2127) := by intro q hq; subst hq; exact K
  refine g_aload_n hX (pc := 262) (i := 1) dL_law_262 rfl 1 rfl ?_
  refine g_aload_n hX (pc := 263) (i := 0) dL_law_263 rfl 0 rfl ?_
  refine g_iload hX (pc := 264) dL_law_264 4 rfl ?_
  refine g_iconst hX (pc := 266) (v := 1) dL_law_266 (by decide) ?_
  refine g_iadd hX (pc := 267) dL_law_267 ?_
  obtain ⟨v1, e_v1, h⟩ := bnd h
  refine g_sldE hX (pc := 268) hsc e_v1 dL_law_268 ?_
  refine g_aload_n hX (pc := 269) (i := 0) dL_law_269 rfl 0 rfl ?_
  refine g_iload hX (pc := 270) dL_law_270 4 rfl ?_
  refine g_iconst hX (pc := 272) (v := 2) dL_law_272 (by decide) ?_
  refine g_iadd hX (pc := 273) dL_law_273 ?_
  obtain ⟨v2, e_v2, h⟩ := bnd h
  refine g_sldE hX (pc := 274) hsc e_v2 dL_law_274 ?_
  obtain ⟨r3, e_r3, h⟩ := bnd h
  refine g_callVi hX (pc := 275) (d := d + 40) hr0 [.int v1, .int v2] (c := 4) (ct_X4_item (d := d + 38) hx e_r3) hx.1.1 hx.1.2 (by decide) rfl co_X4_item ml_L_29 im_X4_item sl_X4_item ini_X4 nm_X4_item (by decide) (by omega) (Nat.le_refl _) (Nat.le_of_ble_eq_true rfl) rfl dL_law_275 ?_
  refine g_aload_n hX (pc := 278) (i := 2) dL_law_278 rfl 2 rfl ?_
  refine g_aload_n hX (pc := 279) (i := 0) dL_law_279 rfl 0 rfl ?_
  refine g_iload hX (pc := 280) dL_law_280 4 rfl ?_
  refine g_iconst hX (pc := 282) (v := 1) dL_law_282 (by decide) ?_
  refine g_iadd hX (pc := 283) dL_law_283 ?_
  obtain ⟨v4, e_v4, h⟩ := bnd h
  refine g_sldE hX (pc := 284) hsc e_v4 dL_law_284 ?_
  refine g_aload_n hX (pc := 285) (i := 0) dL_law_285 rfl 0 rfl ?_
  refine g_iload hX (pc := 286) dL_law_286 4 rfl ?_
  refine g_iconst hX (pc := 288) (v := 2) dL_law_288 (by decide) ?_
  refine g_iadd hX (pc := 289) dL_law_289 ?_
  obtain ⟨v5, e_v5, h⟩ := bnd h
  refine g_sldE hX (pc := 290) hsc e_v5 dL_law_290 ?_
  obtain ⟨r6, e_r6, h⟩ := bnd h
  refine g_callVi hX (pc := 291) (d := d + 40) hr0 [.int v4, .int v5] (c := 5) (ct_X5_item (d := d + 38) hm e_r6) hm.1.1 hm.1.2 (by decide) rfl co_X5_item ml_L_32 im_X5_item sl_X5_item ini_X5 nm_X5_item (by decide) (by omega) (Nat.le_refl _) (Nat.le_of_ble_eq_true rfl) rfl dL_law_291 ?_
  refine g_icmp_eq hX (pc := 294) dL_law_294 (tgt := 982) (by decide) (fun c7 => ?_) (fun c7 => ?_)
  · replace h := ifP c7 h
    refine g_widen (kc := uc + 10) (ks := us + 2127) (by omega) (by omega) ?_
    exact KZ ((z, J, r6.2)) (Option.some.inj h)
  · replace h := ifN c7 h
    refine g_iconst hX (pc := 297) (v := 0) dL_law_297 (by decide) ?_
    cases h
noncomputable def f_Lc_4 (x t u m L : Nat) (xs : Nat → Int32) (i : Int32) (z : Sh) (J : MJ) (I : MI) : Option (Sh × MJ × MI) :=
  (rd L xs (i + 1)).bind fun v1 =>
  (rd L xs (i + 2)).bind fun v2 =>
  (rd L xs (i + 3)).bind fun v3 =>
  (f_X4_units x t u v1 v2 v3 I).bind fun r4 =>
  (rd L xs (i + 1)).bind fun v5 =>
  (rd L xs (i + 2)).bind fun v6 =>
  (rd L xs (i + 3)).bind fun v7 =>
  (f_X5_units m v5 v6 v7 J I).bind fun r8 =>
  if r4 = r8.1 then
    some ((z, J, r8.2))
  else
    none
set_option maxRecDepth 100000 in
set_option maxHeartbeats 4000000 in
theorem lc_4 {E : Ev} {X : Xt} {Q : State → Prop} {b x t u m o L : Nat} {xs : Nat → Int32} {i : Int32} {z : Sh} {J : MJ} {I : MI} {uc us d : Nat} {zz : Sh} {Jz : MJ} {Iz : MI} (hX : Cx E X cL_law 7 (some .boolean) RL) (hr0 : RmOk X (d + 41) 601024 7293034) (hu : uc + 10 ≤ 601024 ∧ us + 2127 ≤ 7293034) (hsc : Scr E X b L xs) (hx : oX4 z x t u) (hm : oX5 z m) (h : f_Lc_4 x t u m L xs i z J I = some (zz, Jz, Iz)) (K : GW E X Q 7 982 [(0, .ref b), (1, .ref x), (2, .ref m), (3, .ref o), (4, .int i)] [] zz Jz Iz (uc + 10) (us + 2127)) : GW E X Q 7 367 [(0, .ref b), (1, .ref x), (2, .ref m), (3, .ref o), (4, .int i)] [] z J I uc us := by
  unfold f_Lc_4 at h
  have KZ : ∀ q : Sh × MJ × MI, q = (zz, Jz, Iz) → GW E X Q 7 982 [(0, .ref b), (1, .ref x), (2, .ref m), (3, .ref o), (4, .int i)] [] q.1 q.2.1 q.2.2 (uc + 10) (us + 2127) := by intro q hq; subst hq; exact K
  refine g_aload_n hX (pc := 367) (i := 1) dL_law_367 rfl 1 rfl ?_
  refine g_aload_n hX (pc := 368) (i := 0) dL_law_368 rfl 0 rfl ?_
  refine g_iload hX (pc := 369) dL_law_369 4 rfl ?_
  refine g_iconst hX (pc := 371) (v := 1) dL_law_371 (by decide) ?_
  refine g_iadd hX (pc := 372) dL_law_372 ?_
  obtain ⟨v1, e_v1, h⟩ := bnd h
  refine g_sldE hX (pc := 373) hsc e_v1 dL_law_373 ?_
  refine g_aload_n hX (pc := 374) (i := 0) dL_law_374 rfl 0 rfl ?_
  refine g_iload hX (pc := 375) dL_law_375 4 rfl ?_
  refine g_iconst hX (pc := 377) (v := 2) dL_law_377 (by decide) ?_
  refine g_iadd hX (pc := 378) dL_law_378 ?_
  obtain ⟨v2, e_v2, h⟩ := bnd h
  refine g_sldE hX (pc := 379) hsc e_v2 dL_law_379 ?_
  refine g_aload_n hX (pc := 380) (i := 0) dL_law_380 rfl 0 rfl ?_
  refine g_iload hX (pc := 381) dL_law_381 4 rfl ?_
  refine g_iconst hX (pc := 383) (v := 3) dL_law_383 (by decide) ?_
  refine g_iadd hX (pc := 384) dL_law_384 ?_
  obtain ⟨v3, e_v3, h⟩ := bnd h
  refine g_sldE hX (pc := 385) hsc e_v3 dL_law_385 ?_
  obtain ⟨r4, e_r4, h⟩ := bnd h
  refine g_callVi hX (pc := 386) (d := d + 40) hr0 [.int v1, .int v2, .int v3] (c := 4) (ct_X4_units (d := d + 39) hx e_r4) hx.1.1 hx.1.2 (by decide) rfl co_X4_units ml_L_43 im_X4_units sl_X4_units ini_X4 nm_X4_units (by decide) (by omega) (Nat.le_refl _) (Nat.le_of_ble_eq_true rfl) rfl dL_law_386 ?_
  refine g_aload_n hX (pc := 389) (i := 2) dL_law_389 rfl 2 rfl ?_
  refine g_aload_n hX (pc := 390) (i := 0) dL_law_390 rfl 0 rfl ?_
  refine g_iload hX (pc := 391) dL_law_391 4 rfl ?_
  refine g_iconst hX (pc := 393) (v := 1) dL_law_393 (by decide) ?_
  refine g_iadd hX (pc := 394) dL_law_394 ?_
  obtain ⟨v5, e_v5, h⟩ := bnd h
  refine g_sldE hX (pc := 395) hsc e_v5 dL_law_395 ?_
  refine g_aload_n hX (pc := 396) (i := 0) dL_law_396 rfl 0 rfl ?_
  refine g_iload hX (pc := 397) dL_law_397 4 rfl ?_
  refine g_iconst hX (pc := 399) (v := 2) dL_law_399 (by decide) ?_
  refine g_iadd hX (pc := 400) dL_law_400 ?_
  obtain ⟨v6, e_v6, h⟩ := bnd h
  refine g_sldE hX (pc := 401) hsc e_v6 dL_law_401 ?_
  refine g_aload_n hX (pc := 402) (i := 0) dL_law_402 rfl 0 rfl ?_
  refine g_iload hX (pc := 403) dL_law_403 4 rfl ?_
  refine g_iconst hX (pc := 405) (v := 3) dL_law_405 (by decide) ?_
  refine g_iadd hX (pc := 406) dL_law_406 ?_
  obtain ⟨v7, e_v7, h⟩ := bnd h
  refine g_sldE hX (pc := 407) hsc e_v7 dL_law_407 ?_
  obtain ⟨r8, e_r8, h⟩ := bnd h
  refine g_callVi hX (pc := 408) (d := d + 40) hr0 [.int v5, .int v6, .int v7] (c := 5) (ct_X5_units (d := d + 38) hm e_r8) hm.1.1 hm.1.2 (by decide) rfl co_X5_units ml_L_47 im_X5_units sl_X5_units ini_X5 nm_X5_units (by decide) (by omega) (Nat.le_refl _) (Nat.le_of_ble_eq_true rfl) rfl dL_law_408 ?_
  refine g_icmp_eq hX (pc := 411) dL_law_411 (tgt := 982) (by decide) (fun c9 => ?_) (fun c9 => ?_)
  · replace h := ifP c9 h
    refine g_widen (kc := uc + 10) (ks := us + 2127) (by omega) (by omega) ?_
    exact KZ ((z, J, r8.2)) (Option.some.inj h)
  · replace h := ifN c9 h
    refine g_iconst hX (pc := 414) (v := 0) dL_law_414 (by decide) ?_
    cases h
noncomputable def f_Lc_5 (x t u m L : Nat) (xs : Nat → Int32) (i : Int32) (z : Sh) (J : MJ) (I : MI) : Option (Sh × MJ × MI) :=
  (rd L xs (i + 1)).bind fun v1 =>
  (rd L xs (i + 2)).bind fun v2 =>
  (f_X4_alike x t u v1 v2 I).bind fun r3 =>
  (rd L xs (i + 1)).bind fun v4 =>
  (rd L xs (i + 2)).bind fun v5 =>
  (f_X5_alike m v4 v5 J I).bind fun r6 =>
  if r3 = r6.1 then
    some ((z, J, r6.2))
  else
    none
set_option maxRecDepth 100000 in
set_option maxHeartbeats 4000000 in
theorem lc_5 {E : Ev} {X : Xt} {Q : State → Prop} {b x t u m o L : Nat} {xs : Nat → Int32} {i : Int32} {z : Sh} {J : MJ} {I : MI} {uc us d : Nat} {zz : Sh} {Jz : MJ} {Iz : MI} (hX : Cx E X cL_law 7 (some .boolean) RL) (hr0 : RmOk X (d + 41) 601024 7293034) (hu : uc + 10 ≤ 601024 ∧ us + 2127 ≤ 7293034) (hsc : Scr E X b L xs) (hx : oX4 z x t u) (hm : oX5 z m) (h : f_Lc_5 x t u m L xs i z J I = some (zz, Jz, Iz)) (K : GW E X Q 7 982 [(0, .ref b), (1, .ref x), (2, .ref m), (3, .ref o), (4, .int i)] [] zz Jz Iz (uc + 10) (us + 2127)) : GW E X Q 7 416 [(0, .ref b), (1, .ref x), (2, .ref m), (3, .ref o), (4, .int i)] [] z J I uc us := by
  unfold f_Lc_5 at h
  have KZ : ∀ q : Sh × MJ × MI, q = (zz, Jz, Iz) → GW E X Q 7 982 [(0, .ref b), (1, .ref x), (2, .ref m), (3, .ref o), (4, .int i)] [] q.1 q.2.1 q.2.2 (uc + 10) (us + 2127) := by intro q hq; subst hq; exact K
  refine g_aload_n hX (pc := 416) (i := 1) dL_law_416 rfl 1 rfl ?_
  refine g_aload_n hX (pc := 417) (i := 0) dL_law_417 rfl 0 rfl ?_
  refine g_iload hX (pc := 418) dL_law_418 4 rfl ?_
  refine g_iconst hX (pc := 420) (v := 1) dL_law_420 (by decide) ?_
  refine g_iadd hX (pc := 421) dL_law_421 ?_
  obtain ⟨v1, e_v1, h⟩ := bnd h
  refine g_sldE hX (pc := 422) hsc e_v1 dL_law_422 ?_
  refine g_aload_n hX (pc := 423) (i := 0) dL_law_423 rfl 0 rfl ?_
  refine g_iload hX (pc := 424) dL_law_424 4 rfl ?_
  refine g_iconst hX (pc := 426) (v := 2) dL_law_426 (by decide) ?_
  refine g_iadd hX (pc := 427) dL_law_427 ?_
  obtain ⟨v2, e_v2, h⟩ := bnd h
  refine g_sldE hX (pc := 428) hsc e_v2 dL_law_428 ?_
  obtain ⟨r3, e_r3, h⟩ := bnd h
  refine g_callVi hX (pc := 429) (d := d + 40) hr0 [.int v1, .int v2] (c := 4) (ct_X4_alike (d := d + 39) hx e_r3) hx.1.1 hx.1.2 (by decide) rfl co_X4_alike ml_L_48 im_X4_alike sl_X4_alike ini_X4 nm_X4_alike (by decide) (by omega) (Nat.le_refl _) (Nat.le_of_ble_eq_true rfl) rfl dL_law_429 ?_
  refine g_aload_n hX (pc := 432) (i := 2) dL_law_432 rfl 2 rfl ?_
  refine g_aload_n hX (pc := 433) (i := 0) dL_law_433 rfl 0 rfl ?_
  refine g_iload hX (pc := 434) dL_law_434 4 rfl ?_
  refine g_iconst hX (pc := 436) (v := 1) dL_law_436 (by decide) ?_
  refine g_iadd hX (pc := 437) dL_law_437 ?_
  obtain ⟨v4, e_v4, h⟩ := bnd h
  refine g_sldE hX (pc := 438) hsc e_v4 dL_law_438 ?_
  refine g_aload_n hX (pc := 439) (i := 0) dL_law_439 rfl 0 rfl ?_
  refine g_iload hX (pc := 440) dL_law_440 4 rfl ?_
  refine g_iconst hX (pc := 442) (v := 2) dL_law_442 (by decide) ?_
  refine g_iadd hX (pc := 443) dL_law_443 ?_
  obtain ⟨v5, e_v5, h⟩ := bnd h
  refine g_sldE hX (pc := 444) hsc e_v5 dL_law_444 ?_
  obtain ⟨r6, e_r6, h⟩ := bnd h
  refine g_callVi hX (pc := 445) (d := d + 40) hr0 [.int v4, .int v5] (c := 5) (ct_X5_alike (d := d + 38) hm e_r6) hm.1.1 hm.1.2 (by decide) rfl co_X5_alike ml_L_51 im_X5_alike sl_X5_alike ini_X5 nm_X5_alike (by decide) (by omega) (Nat.le_refl _) (Nat.le_of_ble_eq_true rfl) rfl dL_law_445 ?_
  refine g_icmp_eq hX (pc := 448) dL_law_448 (tgt := 982) (by decide) (fun c7 => ?_) (fun c7 => ?_)
  · replace h := ifP c7 h
    refine g_widen (kc := uc + 10) (ks := us + 2127) (by omega) (by omega) ?_
    exact KZ ((z, J, r6.2)) (Option.some.inj h)
  · replace h := ifN c7 h
    refine g_iconst hX (pc := 451) (v := 0) dL_law_451 (by decide) ?_
    cases h
noncomputable def f_Lc_6 (x t u m L : Nat) (xs : Nat → Int32) (i : Int32) (z : Sh) (J : MJ) (I : MI) : Option (Sh × MJ × MI) :=
  (f_X4_wave x t u I).bind fun r1 =>
  (f_X5_wave m J r1.2).bind fun r2 =>
  if r1.1 = r2.1 then
    some ((z, J, r2.2))
  else
    none
set_option maxRecDepth 100000 in
set_option maxHeartbeats 4000000 in
theorem lc_6 {E : Ev} {X : Xt} {Q : State → Prop} {b x t u m o L : Nat} {xs : Nat → Int32} {i : Int32} {z : Sh} {J : MJ} {I : MI} {uc us d : Nat} {zz : Sh} {Jz : MJ} {Iz : MI} (hX : Cx E X cL_law 7 (some .boolean) RL) (hr0 : RmOk X (d + 41) 601024 7293034) (hu : uc + 10 ≤ 601024 ∧ us + 2127 ≤ 7293034) (hsc : Scr E X b L xs) (hx : oX4 z x t u) (hm : oX5 z m) (h : f_Lc_6 x t u m L xs i z J I = some (zz, Jz, Iz)) (K : GW E X Q 7 982 [(0, .ref b), (1, .ref x), (2, .ref m), (3, .ref o), (4, .int i)] [] zz Jz Iz (uc + 10) (us + 2127)) : GW E X Q 7 453 [(0, .ref b), (1, .ref x), (2, .ref m), (3, .ref o), (4, .int i)] [] z J I uc us := by
  unfold f_Lc_6 at h
  have KZ : ∀ q : Sh × MJ × MI, q = (zz, Jz, Iz) → GW E X Q 7 982 [(0, .ref b), (1, .ref x), (2, .ref m), (3, .ref o), (4, .int i)] [] q.1 q.2.1 q.2.2 (uc + 10) (us + 2127) := by intro q hq; subst hq; exact K
  refine g_aload_n hX (pc := 453) (i := 1) dL_law_453 rfl 1 rfl ?_
  obtain ⟨r1, e_r1, h⟩ := bnd h
  refine g_callVi hX (pc := 454) (d := d + 40) hr0 [] (c := 4) (ct_X4_wave (d := d + 36) hx e_r1) hx.1.1 hx.1.2 (by decide) rfl co_X4_wave ml_L_52 im_X4_wave sl_X4_wave ini_X4 nm_X4_wave (by decide) (by omega) (Nat.le_refl _) (Nat.le_of_ble_eq_true rfl) rfl dL_law_454 ?_
  refine g_aload_n hX (pc := 457) (i := 2) dL_law_457 rfl 2 rfl ?_
  obtain ⟨r2, e_r2, h⟩ := bnd h
  refine g_callVi hX (pc := 458) (d := d + 40) hr0 [] (c := 5) (ct_X5_wave (d := d + 36) hm e_r2) hm.1.1 hm.1.2 (by decide) rfl co_X5_wave ml_L_55 im_X5_wave sl_X5_wave ini_X5 nm_X5_wave (by decide) (by omega) (Nat.le_refl _) (Nat.le_of_ble_eq_true rfl) rfl dL_law_458 ?_
  refine g_icmp_eq hX (pc := 461) dL_law_461 (tgt := 982) (by decide) (fun c3 => ?_) (fun c3 => ?_)
  · replace h := ifP c3 h
    refine g_widen (kc := uc + 10) (ks := us + 2127) (by omega) (by omega) ?_
    exact KZ ((z, J, r2.2)) (Option.some.inj h)
  · replace h := ifN c3 h
    refine g_iconst hX (pc := 464) (v := 0) dL_law_464 (by decide) ?_
    cases h
noncomputable def f_Lc_7 (x t u m L : Nat) (xs : Nat → Int32) (i : Int32) (z : Sh) (J : MJ) (I : MI) : Option (Sh × MJ × MI) :=
  (rd L xs (i + 1)).bind fun v1 =>
  (rd L xs (i + 2)).bind fun v2 =>
  (f_X4_pick x t u v1 v2 I).bind fun r3 =>
  (rd L xs (i + 1)).bind fun v4 =>
  (rd L xs (i + 2)).bind fun v5 =>
  (f_X5_pick m v4 v5 J r3.2).bind fun r6 =>
  if r3.1 = r6.1 then
    some ((z, J, r6.2))
  else
    none
set_option maxRecDepth 100000 in
set_option maxHeartbeats 4000000 in
theorem lc_7 {E : Ev} {X : Xt} {Q : State → Prop} {b x t u m o L : Nat} {xs : Nat → Int32} {i : Int32} {z : Sh} {J : MJ} {I : MI} {uc us d : Nat} {zz : Sh} {Jz : MJ} {Iz : MI} (hX : Cx E X cL_law 7 (some .boolean) RL) (hr0 : RmOk X (d + 41) 601024 7293034) (hu : uc + 10 ≤ 601024 ∧ us + 2127 ≤ 7293034) (hsc : Scr E X b L xs) (hx : oX4 z x t u) (hm : oX5 z m) (h : f_Lc_7 x t u m L xs i z J I = some (zz, Jz, Iz)) (K : GW E X Q 7 982 [(0, .ref b), (1, .ref x), (2, .ref m), (3, .ref o), (4, .int i)] [] zz Jz Iz (uc + 10) (us + 2127)) : GW E X Q 7 466 [(0, .ref b), (1, .ref x), (2, .ref m), (3, .ref o), (4, .int i)] [] z J I uc us := by
  unfold f_Lc_7 at h
  have KZ : ∀ q : Sh × MJ × MI, q = (zz, Jz, Iz) → GW E X Q 7 982 [(0, .ref b), (1, .ref x), (2, .ref m), (3, .ref o), (4, .int i)] [] q.1 q.2.1 q.2.2 (uc + 10) (us + 2127) := by intro q hq; subst hq; exact K
  refine g_aload_n hX (pc := 466) (i := 1) dL_law_466 rfl 1 rfl ?_
  refine g_aload_n hX (pc := 467) (i := 0) dL_law_467 rfl 0 rfl ?_
  refine g_iload hX (pc := 468) dL_law_468 4 rfl ?_
  refine g_iconst hX (pc := 470) (v := 1) dL_law_470 (by decide) ?_
  refine g_iadd hX (pc := 471) dL_law_471 ?_
  obtain ⟨v1, e_v1, h⟩ := bnd h
  refine g_sldE hX (pc := 472) hsc e_v1 dL_law_472 ?_
  refine g_aload_n hX (pc := 473) (i := 0) dL_law_473 rfl 0 rfl ?_
  refine g_iload hX (pc := 474) dL_law_474 4 rfl ?_
  refine g_iconst hX (pc := 476) (v := 2) dL_law_476 (by decide) ?_
  refine g_iadd hX (pc := 477) dL_law_477 ?_
  obtain ⟨v2, e_v2, h⟩ := bnd h
  refine g_sldE hX (pc := 478) hsc e_v2 dL_law_478 ?_
  obtain ⟨r3, e_r3, h⟩ := bnd h
  refine g_callVi hX (pc := 479) (d := d + 40) hr0 [.int v1, .int v2] (c := 4) (ct_X4_pick (d := d + 36) hx e_r3) hx.1.1 hx.1.2 (by decide) rfl co_X4_pick ml_L_56 im_X4_pick sl_X4_pick ini_X4 nm_X4_pick (by decide) (by omega) (Nat.le_refl _) (Nat.le_of_ble_eq_true rfl) rfl dL_law_479 ?_
  refine g_aload_n hX (pc := 482) (i := 2) dL_law_482 rfl 2 rfl ?_
  refine g_aload_n hX (pc := 483) (i := 0) dL_law_483 rfl 0 rfl ?_
  refine g_iload hX (pc := 484) dL_law_484 4 rfl ?_
  refine g_iconst hX (pc := 486) (v := 1) dL_law_486 (by decide) ?_
  refine g_iadd hX (pc := 487) dL_law_487 ?_
  obtain ⟨v4, e_v4, h⟩ := bnd h
  refine g_sldE hX (pc := 488) hsc e_v4 dL_law_488 ?_
  refine g_aload_n hX (pc := 489) (i := 0) dL_law_489 rfl 0 rfl ?_
  refine g_iload hX (pc := 490) dL_law_490 4 rfl ?_
  refine g_iconst hX (pc := 492) (v := 2) dL_law_492 (by decide) ?_
  refine g_iadd hX (pc := 493) dL_law_493 ?_
  obtain ⟨v5, e_v5, h⟩ := bnd h
  refine g_sldE hX (pc := 494) hsc e_v5 dL_law_494 ?_
  obtain ⟨r6, e_r6, h⟩ := bnd h
  refine g_callVi hX (pc := 495) (d := d + 40) hr0 [.int v4, .int v5] (c := 5) (ct_X5_pick (d := d + 36) hm e_r6) hm.1.1 hm.1.2 (by decide) rfl co_X5_pick ml_L_59 im_X5_pick sl_X5_pick ini_X5 nm_X5_pick (by decide) (by omega) (Nat.le_refl _) (Nat.le_of_ble_eq_true rfl) rfl dL_law_495 ?_
  refine g_icmp_eq hX (pc := 498) dL_law_498 (tgt := 982) (by decide) (fun c7 => ?_) (fun c7 => ?_)
  · replace h := ifP c7 h
    refine g_widen (kc := uc + 10) (ks := us + 2127) (by omega) (by omega) ?_
    exact KZ ((z, J, r6.2)) (Option.some.inj h)
  · replace h := ifN c7 h
    refine g_iconst hX (pc := 501) (v := 0) dL_law_501 (by decide) ?_
    cases h
noncomputable def f_Lc_8 (x t u m L : Nat) (xs : Nat → Int32) (i : Int32) (z : Sh) (J : MJ) (I : MI) : Option (Sh × MJ × MI) :=
  (f_X4_walk x t u I).bind fun r1 =>
  (f_X5_walk m J r1.2).bind fun r2 =>
  if r1.1 = r2.1 then
    some ((z, J, r2.2))
  else
    none
set_option maxRecDepth 100000 in
set_option maxHeartbeats 4000000 in
theorem lc_8 {E : Ev} {X : Xt} {Q : State → Prop} {b x t u m o L : Nat} {xs : Nat → Int32} {i : Int32} {z : Sh} {J : MJ} {I : MI} {uc us d : Nat} {zz : Sh} {Jz : MJ} {Iz : MI} (hX : Cx E X cL_law 7 (some .boolean) RL) (hr0 : RmOk X (d + 41) 601024 7293034) (hu : uc + 10 ≤ 601024 ∧ us + 2127 ≤ 7293034) (hsc : Scr E X b L xs) (hx : oX4 z x t u) (hm : oX5 z m) (h : f_Lc_8 x t u m L xs i z J I = some (zz, Jz, Iz)) (K : GW E X Q 7 982 [(0, .ref b), (1, .ref x), (2, .ref m), (3, .ref o), (4, .int i)] [] zz Jz Iz (uc + 10) (us + 2127)) : GW E X Q 7 503 [(0, .ref b), (1, .ref x), (2, .ref m), (3, .ref o), (4, .int i)] [] z J I uc us := by
  unfold f_Lc_8 at h
  have KZ : ∀ q : Sh × MJ × MI, q = (zz, Jz, Iz) → GW E X Q 7 982 [(0, .ref b), (1, .ref x), (2, .ref m), (3, .ref o), (4, .int i)] [] q.1 q.2.1 q.2.2 (uc + 10) (us + 2127) := by intro q hq; subst hq; exact K
  refine g_aload_n hX (pc := 503) (i := 1) dL_law_503 rfl 1 rfl ?_
  obtain ⟨r1, e_r1, h⟩ := bnd h
  refine g_callVi hX (pc := 504) (d := d + 40) hr0 [] (c := 4) (ct_X4_walk (d := d + 36) hx e_r1) hx.1.1 hx.1.2 (by decide) rfl co_X4_walk ml_L_60 im_X4_walk sl_X4_walk ini_X4 nm_X4_walk (by decide) (by omega) (Nat.le_refl _) (Nat.le_of_ble_eq_true rfl) rfl dL_law_504 ?_
  refine g_aload_n hX (pc := 507) (i := 2) dL_law_507 rfl 2 rfl ?_
  obtain ⟨r2, e_r2, h⟩ := bnd h
  refine g_callVi hX (pc := 508) (d := d + 40) hr0 [] (c := 5) (ct_X5_walk (d := d + 36) hm e_r2) hm.1.1 hm.1.2 (by decide) rfl co_X5_walk ml_L_63 im_X5_walk sl_X5_walk ini_X5 nm_X5_walk (by decide) (by omega) (Nat.le_refl _) (Nat.le_of_ble_eq_true rfl) rfl dL_law_508 ?_
  refine g_icmp_eq hX (pc := 511) dL_law_511 (tgt := 982) (by decide) (fun c3 => ?_) (fun c3 => ?_)
  · replace h := ifP c3 h
    refine g_widen (kc := uc + 10) (ks := us + 2127) (by omega) (by omega) ?_
    exact KZ ((z, J, r2.2)) (Option.some.inj h)
  · replace h := ifN c3 h
    refine g_iconst hX (pc := 514) (v := 0) dL_law_514 (by decide) ?_
    cases h
noncomputable def f_Lc_9 (x t u m L : Nat) (xs : Nat → Int32) (i : Int32) (z : Sh) (J : MJ) (I : MI) : Option (Sh × MJ × MI) :=
  (rd L xs (i + 1)).bind fun v1 =>
  (rd L xs (i + 2)).bind fun v2 =>
  (f_X4_cost x t u v1 v2 I).bind fun r3 =>
  (rd L xs (i + 1)).bind fun v4 =>
  (rd L xs (i + 2)).bind fun v5 =>
  (f_X5_cost m v4 v5 J r3.2).bind fun r6 =>
  if r3.1 = r6.1 then
    some ((z, J, r6.2))
  else
    none
set_option maxRecDepth 100000 in
set_option maxHeartbeats 4000000 in
theorem lc_9 {E : Ev} {X : Xt} {Q : State → Prop} {b x t u m o L : Nat} {xs : Nat → Int32} {i : Int32} {z : Sh} {J : MJ} {I : MI} {uc us d : Nat} {zz : Sh} {Jz : MJ} {Iz : MI} (hX : Cx E X cL_law 7 (some .boolean) RL) (hr0 : RmOk X (d + 41) 601024 7293034) (hu : uc + 10 ≤ 601024 ∧ us + 2127 ≤ 7293034) (hsc : Scr E X b L xs) (hx : oX4 z x t u) (hm : oX5 z m) (h : f_Lc_9 x t u m L xs i z J I = some (zz, Jz, Iz)) (K : GW E X Q 7 982 [(0, .ref b), (1, .ref x), (2, .ref m), (3, .ref o), (4, .int i)] [] zz Jz Iz (uc + 10) (us + 2127)) : GW E X Q 7 516 [(0, .ref b), (1, .ref x), (2, .ref m), (3, .ref o), (4, .int i)] [] z J I uc us := by
  unfold f_Lc_9 at h
  have KZ : ∀ q : Sh × MJ × MI, q = (zz, Jz, Iz) → GW E X Q 7 982 [(0, .ref b), (1, .ref x), (2, .ref m), (3, .ref o), (4, .int i)] [] q.1 q.2.1 q.2.2 (uc + 10) (us + 2127) := by intro q hq; subst hq; exact K
  refine g_aload_n hX (pc := 516) (i := 1) dL_law_516 rfl 1 rfl ?_
  refine g_aload_n hX (pc := 517) (i := 0) dL_law_517 rfl 0 rfl ?_
  refine g_iload hX (pc := 518) dL_law_518 4 rfl ?_
  refine g_iconst hX (pc := 520) (v := 1) dL_law_520 (by decide) ?_
  refine g_iadd hX (pc := 521) dL_law_521 ?_
  obtain ⟨v1, e_v1, h⟩ := bnd h
  refine g_sldE hX (pc := 522) hsc e_v1 dL_law_522 ?_
  refine g_aload_n hX (pc := 523) (i := 0) dL_law_523 rfl 0 rfl ?_
  refine g_iload hX (pc := 524) dL_law_524 4 rfl ?_
  refine g_iconst hX (pc := 526) (v := 2) dL_law_526 (by decide) ?_
  refine g_iadd hX (pc := 527) dL_law_527 ?_
  obtain ⟨v2, e_v2, h⟩ := bnd h
  refine g_sldE hX (pc := 528) hsc e_v2 dL_law_528 ?_
  obtain ⟨r3, e_r3, h⟩ := bnd h
  refine g_callVi hX (pc := 529) (d := d + 40) hr0 [.int v1, .int v2] (c := 4) (ct_X4_cost (d := d + 36) hx e_r3) hx.1.1 hx.1.2 (by decide) rfl co_X4_cost ml_L_64 im_X4_cost sl_X4_cost ini_X4 nm_X4_cost (by decide) (by omega) (Nat.le_refl _) (Nat.le_of_ble_eq_true rfl) rfl dL_law_529 ?_
  refine g_aload_n hX (pc := 532) (i := 2) dL_law_532 rfl 2 rfl ?_
  refine g_aload_n hX (pc := 533) (i := 0) dL_law_533 rfl 0 rfl ?_
  refine g_iload hX (pc := 534) dL_law_534 4 rfl ?_
  refine g_iconst hX (pc := 536) (v := 1) dL_law_536 (by decide) ?_
  refine g_iadd hX (pc := 537) dL_law_537 ?_
  obtain ⟨v4, e_v4, h⟩ := bnd h
  refine g_sldE hX (pc := 538) hsc e_v4 dL_law_538 ?_
  refine g_aload_n hX (pc := 539) (i := 0) dL_law_539 rfl 0 rfl ?_
  refine g_iload hX (pc := 540) dL_law_540 4 rfl ?_
  refine g_iconst hX (pc := 542) (v := 2) dL_law_542 (by decide) ?_
  refine g_iadd hX (pc := 543) dL_law_543 ?_
  obtain ⟨v5, e_v5, h⟩ := bnd h
  refine g_sldE hX (pc := 544) hsc e_v5 dL_law_544 ?_
  obtain ⟨r6, e_r6, h⟩ := bnd h
  refine g_callVi hX (pc := 545) (d := d + 40) hr0 [.int v4, .int v5] (c := 5) (ct_X5_cost (d := d + 36) hm e_r6) hm.1.1 hm.1.2 (by decide) rfl co_X5_cost ml_L_67 im_X5_cost sl_X5_cost ini_X5 nm_X5_cost (by decide) (by omega) (Nat.le_refl _) (Nat.le_of_ble_eq_true rfl) rfl dL_law_545 ?_
  refine g_icmp_eq hX (pc := 548) dL_law_548 (tgt := 982) (by decide) (fun c7 => ?_) (fun c7 => ?_)
  · replace h := ifP c7 h
    refine g_widen (kc := uc + 10) (ks := us + 2127) (by omega) (by omega) ?_
    exact KZ ((z, J, r6.2)) (Option.some.inj h)
  · replace h := ifN c7 h
    refine g_iconst hX (pc := 551) (v := 0) dL_law_551 (by decide) ?_
    cases h
noncomputable def f_Lc_10 (x t u m L : Nat) (xs : Nat → Int32) (i : Int32) (z : Sh) (J : MJ) (I : MI) : Option (Sh × MJ × MI) :=
  (f_X4_release x t u z I).bind fun r1 =>
  (gd (zs z ≤ zs r1.2.1)).bind fun g2 =>
  (gd (oX5 r1.2.1 m)).bind fun g3 =>
  (f_X5_release m J r1.2.2).bind fun r4 =>
  if r1.1 = r4.1 then
    some ((r1.2.1, J, r4.2))
  else
    none
set_option maxRecDepth 100000 in
set_option maxHeartbeats 4000000 in
theorem lc_10 {E : Ev} {X : Xt} {Q : State → Prop} {b x t u m o L : Nat} {xs : Nat → Int32} {i : Int32} {z : Sh} {J : MJ} {I : MI} {uc us d : Nat} {zz : Sh} {Jz : MJ} {Iz : MI} (hX : Cx E X cL_law 7 (some .boolean) RL) (hr0 : RmOk X (d + 41) 601024 7293034) (hu : uc + 10 ≤ 601024 ∧ us + 2127 ≤ 7293034) (hsc : Scr E X b L xs) (hx : oX4 z x t u) (hm : oX5 z m) (h : f_Lc_10 x t u m L xs i z J I = some (zz, Jz, Iz)) (K : GW E X Q 7 982 [(0, .ref b), (1, .ref x), (2, .ref m), (3, .ref o), (4, .int i)] [] zz Jz Iz (uc + 10) (us + 2127)) : GW E X Q 7 553 [(0, .ref b), (1, .ref x), (2, .ref m), (3, .ref o), (4, .int i)] [] z J I uc us := by
  unfold f_Lc_10 at h
  have KZ : ∀ q : Sh × MJ × MI, q = (zz, Jz, Iz) → GW E X Q 7 982 [(0, .ref b), (1, .ref x), (2, .ref m), (3, .ref o), (4, .int i)] [] q.1 q.2.1 q.2.2 (uc + 10) (us + 2127) := by intro q hq; subst hq; exact K
  refine g_aload_n hX (pc := 553) (i := 1) dL_law_553 rfl 1 rfl ?_
  obtain ⟨r1, e_r1, h⟩ := bnd h
  obtain ⟨g2, e_g2, h⟩ := bnd h
  refine g_callVi hX (pc := 554) (d := d + 40) hr0 [] (c := 4) (ct_X4_release (d := d + 36) hx e_r1) hx.1.1 hx.1.2 (by decide) rfl co_X4_release ml_L_68 im_X4_release sl_X4_release ini_X4 nm_X4_release (by decide) (by omega) (gd_some e_g2) (Nat.le_of_ble_eq_true rfl) rfl dL_law_554 ?_
  obtain ⟨g3, e_g3, h⟩ := bnd h
  refine g_aload_n hX (pc := 557) (i := 2) dL_law_557 rfl 2 rfl ?_
  obtain ⟨r4, e_r4, h⟩ := bnd h
  refine g_callVi hX (pc := 558) (d := d + 40) hr0 [] (c := 5) (ct_X5_release (d := d + 36) (gd_some e_g3) e_r4) (gd_some e_g3).1.1 (gd_some e_g3).1.2 (by decide) rfl co_X5_release ml_L_71 im_X5_release sl_X5_release ini_X5 nm_X5_release (by decide) (by omega) (Nat.le_refl _) (Nat.le_of_ble_eq_true rfl) rfl dL_law_558 ?_
  refine g_icmp_eq hX (pc := 561) dL_law_561 (tgt := 982) (by decide) (fun c5 => ?_) (fun c5 => ?_)
  · replace h := ifP c5 h
    refine g_widen (kc := uc + 10) (ks := us + 2127) (by omega) (by omega) ?_
    exact KZ ((r1.2.1, J, r4.2)) (Option.some.inj h)
  · replace h := ifN c5 h
    refine g_iconst hX (pc := 564) (v := 0) dL_law_564 (by decide) ?_
    cases h
noncomputable def f_Lc_11 (x t u m L : Nat) (xs : Nat → Int32) (i : Int32) (z : Sh) (J : MJ) (I : MI) : Option (Sh × MJ × MI) :=
  (rd L xs (i + 1)).bind fun v1 =>
  (f_X4_step x t u v1 z I).bind fun r2 =>
  (gd (zs z ≤ zs r2.2.1)).bind fun g3 =>
  (gd (oX5 r2.2.1 m)).bind fun g4 =>
  (rd L xs (i + 1)).bind fun v5 =>
  (f_X5_step m v5 J r2.2.2).bind fun r6 =>
  if r2.1 = r6.1 then
    some ((r2.2.1, J, r6.2))
  else
    none
set_option maxRecDepth 100000 in
set_option maxHeartbeats 4000000 in
theorem lc_11 {E : Ev} {X : Xt} {Q : State → Prop} {b x t u m o L : Nat} {xs : Nat → Int32} {i : Int32} {z : Sh} {J : MJ} {I : MI} {uc us d : Nat} {zz : Sh} {Jz : MJ} {Iz : MI} (hX : Cx E X cL_law 7 (some .boolean) RL) (hr0 : RmOk X (d + 41) 601024 7293034) (hu : uc + 10 ≤ 601024 ∧ us + 2127 ≤ 7293034) (hsc : Scr E X b L xs) (hx : oX4 z x t u) (hm : oX5 z m) (h : f_Lc_11 x t u m L xs i z J I = some (zz, Jz, Iz)) (K : GW E X Q 7 982 [(0, .ref b), (1, .ref x), (2, .ref m), (3, .ref o), (4, .int i)] [] zz Jz Iz (uc + 10) (us + 2127)) : GW E X Q 7 566 [(0, .ref b), (1, .ref x), (2, .ref m), (3, .ref o), (4, .int i)] [] z J I uc us := by
  unfold f_Lc_11 at h
  have KZ : ∀ q : Sh × MJ × MI, q = (zz, Jz, Iz) → GW E X Q 7 982 [(0, .ref b), (1, .ref x), (2, .ref m), (3, .ref o), (4, .int i)] [] q.1 q.2.1 q.2.2 (uc + 10) (us + 2127) := by intro q hq; subst hq; exact K
  refine g_aload_n hX (pc := 566) (i := 1) dL_law_566 rfl 1 rfl ?_
  refine g_aload_n hX (pc := 567) (i := 0) dL_law_567 rfl 0 rfl ?_
  refine g_iload hX (pc := 568) dL_law_568 4 rfl ?_
  refine g_iconst hX (pc := 570) (v := 1) dL_law_570 (by decide) ?_
  refine g_iadd hX (pc := 571) dL_law_571 ?_
  obtain ⟨v1, e_v1, h⟩ := bnd h
  refine g_sldE hX (pc := 572) hsc e_v1 dL_law_572 ?_
  obtain ⟨r2, e_r2, h⟩ := bnd h
  obtain ⟨g3, e_g3, h⟩ := bnd h
  refine g_callVi hX (pc := 573) (d := d + 40) hr0 [.int v1] (c := 4) (ct_X4_step (d := d + 34) hx e_r2) hx.1.1 hx.1.2 (by decide) rfl co_X4_step ml_L_72 im_X4_step sl_X4_step ini_X4 nm_X4_step (by decide) (by omega) (gd_some e_g3) (Nat.le_of_ble_eq_true rfl) rfl dL_law_573 ?_
  obtain ⟨g4, e_g4, h⟩ := bnd h
  refine g_aload_n hX (pc := 576) (i := 2) dL_law_576 rfl 2 rfl ?_
  refine g_aload_n hX (pc := 577) (i := 0) dL_law_577 rfl 0 rfl ?_
  refine g_iload hX (pc := 578) dL_law_578 4 rfl ?_
  refine g_iconst hX (pc := 580) (v := 1) dL_law_580 (by decide) ?_
  refine g_iadd hX (pc := 581) dL_law_581 ?_
  obtain ⟨v5, e_v5, h⟩ := bnd h
  refine g_sldE hX (pc := 582) hsc e_v5 dL_law_582 ?_
  obtain ⟨r6, e_r6, h⟩ := bnd h
  refine g_callVi hX (pc := 583) (d := d + 40) hr0 [.int v5] (c := 5) (ct_X5_step (d := d + 36) (gd_some e_g4) e_r6) (gd_some e_g4).1.1 (gd_some e_g4).1.2 (by decide) rfl co_X5_step ml_L_75 im_X5_step sl_X5_step ini_X5 nm_X5_step (by decide) (by omega) (Nat.le_refl _) (Nat.le_of_ble_eq_true rfl) rfl dL_law_583 ?_
  refine g_icmp_eq hX (pc := 586) dL_law_586 (tgt := 982) (by decide) (fun c7 => ?_) (fun c7 => ?_)
  · replace h := ifP c7 h
    refine g_widen (kc := uc + 10) (ks := us + 2127) (by omega) (by omega) ?_
    exact KZ ((r2.2.1, J, r6.2)) (Option.some.inj h)
  · replace h := ifN c7 h
    refine g_iconst hX (pc := 589) (v := 0) dL_law_589 (by decide) ?_
    cases h
noncomputable def f_Lc_12 (x t u m L : Nat) (xs : Nat → Int32) (i : Int32) (z : Sh) (J : MJ) (I : MI) : Option (Sh × MJ × MI) :=
  (rd L xs (i + 1)).bind fun v1 =>
  (rd L xs (i + 2)).bind fun v2 =>
  (f_X4_stock x t u v1 v2 z I).bind fun r3 =>
  (gd (zs z ≤ zs r3.2.1)).bind fun g4 =>
  (gd (oX5 r3.2.1 m)).bind fun g5 =>
  (rd L xs (i + 1)).bind fun v6 =>
  (rd L xs (i + 2)).bind fun v7 =>
  (f_X5_stock m v6 v7 J r3.2.2).bind fun r8 =>
  if r3.1 = r8.1 then
    some ((r3.2.1, J, r8.2))
  else
    none
set_option maxRecDepth 100000 in
set_option maxHeartbeats 4000000 in
theorem lc_12 {E : Ev} {X : Xt} {Q : State → Prop} {b x t u m o L : Nat} {xs : Nat → Int32} {i : Int32} {z : Sh} {J : MJ} {I : MI} {uc us d : Nat} {zz : Sh} {Jz : MJ} {Iz : MI} (hX : Cx E X cL_law 7 (some .boolean) RL) (hr0 : RmOk X (d + 41) 601024 7293034) (hu : uc + 10 ≤ 601024 ∧ us + 2127 ≤ 7293034) (hsc : Scr E X b L xs) (hx : oX4 z x t u) (hm : oX5 z m) (h : f_Lc_12 x t u m L xs i z J I = some (zz, Jz, Iz)) (K : GW E X Q 7 982 [(0, .ref b), (1, .ref x), (2, .ref m), (3, .ref o), (4, .int i)] [] zz Jz Iz (uc + 10) (us + 2127)) : GW E X Q 7 591 [(0, .ref b), (1, .ref x), (2, .ref m), (3, .ref o), (4, .int i)] [] z J I uc us := by
  unfold f_Lc_12 at h
  have KZ : ∀ q : Sh × MJ × MI, q = (zz, Jz, Iz) → GW E X Q 7 982 [(0, .ref b), (1, .ref x), (2, .ref m), (3, .ref o), (4, .int i)] [] q.1 q.2.1 q.2.2 (uc + 10) (us + 2127) := by intro q hq; subst hq; exact K
  refine g_aload_n hX (pc := 591) (i := 1) dL_law_591 rfl 1 rfl ?_
  refine g_aload_n hX (pc := 592) (i := 0) dL_law_592 rfl 0 rfl ?_
  refine g_iload hX (pc := 593) dL_law_593 4 rfl ?_
  refine g_iconst hX (pc := 595) (v := 1) dL_law_595 (by decide) ?_
  refine g_iadd hX (pc := 596) dL_law_596 ?_
  obtain ⟨v1, e_v1, h⟩ := bnd h
  refine g_sldE hX (pc := 597) hsc e_v1 dL_law_597 ?_
  refine g_aload_n hX (pc := 598) (i := 0) dL_law_598 rfl 0 rfl ?_
  refine g_iload hX (pc := 599) dL_law_599 4 rfl ?_
  refine g_iconst hX (pc := 601) (v := 2) dL_law_601 (by decide) ?_
  refine g_iadd hX (pc := 602) dL_law_602 ?_
  obtain ⟨v2, e_v2, h⟩ := bnd h
  refine g_sldE hX (pc := 603) hsc e_v2 dL_law_603 ?_
  obtain ⟨r3, e_r3, h⟩ := bnd h
  obtain ⟨g4, e_g4, h⟩ := bnd h
  refine g_callVi hX (pc := 604) (d := d + 40) hr0 [.int v1, .int v2] (c := 4) (ct_X4_stock (d := d + 37) hx e_r3) hx.1.1 hx.1.2 (by decide) rfl co_X4_stock ml_L_76 im_X4_stock sl_X4_stock ini_X4 nm_X4_stock (by decide) (by omega) (gd_some e_g4) (Nat.le_of_ble_eq_true rfl) rfl dL_law_604 ?_
  obtain ⟨g5, e_g5, h⟩ := bnd h
  refine g_aload_n hX (pc := 607) (i := 2) dL_law_607 rfl 2 rfl ?_
  refine g_aload_n hX (pc := 608) (i := 0) dL_law_608 rfl 0 rfl ?_
  refine g_iload hX (pc := 609) dL_law_609 4 rfl ?_
  refine g_iconst hX (pc := 611) (v := 1) dL_law_611 (by decide) ?_
  refine g_iadd hX (pc := 612) dL_law_612 ?_
  obtain ⟨v6, e_v6, h⟩ := bnd h
  refine g_sldE hX (pc := 613) hsc e_v6 dL_law_613 ?_
  refine g_aload_n hX (pc := 614) (i := 0) dL_law_614 rfl 0 rfl ?_
  refine g_iload hX (pc := 615) dL_law_615 4 rfl ?_
  refine g_iconst hX (pc := 617) (v := 2) dL_law_617 (by decide) ?_
  refine g_iadd hX (pc := 618) dL_law_618 ?_
  obtain ⟨v7, e_v7, h⟩ := bnd h
  refine g_sldE hX (pc := 619) hsc e_v7 dL_law_619 ?_
  obtain ⟨r8, e_r8, h⟩ := bnd h
  refine g_callVi hX (pc := 620) (d := d + 40) hr0 [.int v6, .int v7] (c := 5) (ct_X5_stock (d := d + 38) (gd_some e_g5) e_r8) (gd_some e_g5).1.1 (gd_some e_g5).1.2 (by decide) rfl co_X5_stock ml_L_79 im_X5_stock sl_X5_stock ini_X5 nm_X5_stock (by decide) (by omega) (Nat.le_refl _) (Nat.le_of_ble_eq_true rfl) rfl dL_law_620 ?_
  refine g_icmp_eq hX (pc := 623) dL_law_623 (tgt := 982) (by decide) (fun c9 => ?_) (fun c9 => ?_)
  · replace h := ifP c9 h
    refine g_widen (kc := uc + 10) (ks := us + 2127) (by omega) (by omega) ?_
    exact KZ ((r3.2.1, J, r8.2)) (Option.some.inj h)
  · replace h := ifN c9 h
    refine g_iconst hX (pc := 626) (v := 0) dL_law_626 (by decide) ?_
    cases h
noncomputable def f_Lc_13 (x t u m L : Nat) (xs : Nat → Int32) (i : Int32) (z : Sh) (J : MJ) (I : MI) : Option (Sh × MJ × MI) :=
  (rd L xs (i + 1)).bind fun v1 =>
  (f_X4_by x t u v1 z I).bind fun r2 =>
  (gd (zs z ≤ zs r2.2.1)).bind fun g3 =>
  (gd (oX5 r2.2.1 m)).bind fun g4 =>
  (rd L xs (i + 1)).bind fun v5 =>
  (f_X5_by m v5 J r2.2.2).bind fun r6 =>
  if r2.1 = r6.1 then
    some ((r2.2.1, J, r6.2))
  else
    none
set_option maxRecDepth 100000 in
set_option maxHeartbeats 4000000 in
theorem lc_13 {E : Ev} {X : Xt} {Q : State → Prop} {b x t u m o L : Nat} {xs : Nat → Int32} {i : Int32} {z : Sh} {J : MJ} {I : MI} {uc us d : Nat} {zz : Sh} {Jz : MJ} {Iz : MI} (hX : Cx E X cL_law 7 (some .boolean) RL) (hr0 : RmOk X (d + 41) 601024 7293034) (hu : uc + 10 ≤ 601024 ∧ us + 2127 ≤ 7293034) (hsc : Scr E X b L xs) (hx : oX4 z x t u) (hm : oX5 z m) (h : f_Lc_13 x t u m L xs i z J I = some (zz, Jz, Iz)) (K : GW E X Q 7 982 [(0, .ref b), (1, .ref x), (2, .ref m), (3, .ref o), (4, .int i)] [] zz Jz Iz (uc + 10) (us + 2127)) : GW E X Q 7 628 [(0, .ref b), (1, .ref x), (2, .ref m), (3, .ref o), (4, .int i)] [] z J I uc us := by
  unfold f_Lc_13 at h
  have KZ : ∀ q : Sh × MJ × MI, q = (zz, Jz, Iz) → GW E X Q 7 982 [(0, .ref b), (1, .ref x), (2, .ref m), (3, .ref o), (4, .int i)] [] q.1 q.2.1 q.2.2 (uc + 10) (us + 2127) := by intro q hq; subst hq; exact K
  refine g_aload_n hX (pc := 628) (i := 1) dL_law_628 rfl 1 rfl ?_
  refine g_aload_n hX (pc := 629) (i := 0) dL_law_629 rfl 0 rfl ?_
  refine g_iload hX (pc := 630) dL_law_630 4 rfl ?_
  refine g_iconst hX (pc := 632) (v := 1) dL_law_632 (by decide) ?_
  refine g_iadd hX (pc := 633) dL_law_633 ?_
  obtain ⟨v1, e_v1, h⟩ := bnd h
  refine g_sldE hX (pc := 634) hsc e_v1 dL_law_634 ?_
  obtain ⟨r2, e_r2, h⟩ := bnd h
  obtain ⟨g3, e_g3, h⟩ := bnd h
  refine g_callVi hX (pc := 635) (d := d + 40) hr0 [.int v1] (c := 4) (ct_X4_by (d := d + 34) hx e_r2) hx.1.1 hx.1.2 (by decide) rfl co_X4_by ml_L_80 im_X4_by sl_X4_by ini_X4 nm_X4_by (by decide) (by omega) (gd_some e_g3) (Nat.le_of_ble_eq_true rfl) rfl dL_law_635 ?_
  obtain ⟨g4, e_g4, h⟩ := bnd h
  refine g_aload_n hX (pc := 638) (i := 2) dL_law_638 rfl 2 rfl ?_
  refine g_aload_n hX (pc := 639) (i := 0) dL_law_639 rfl 0 rfl ?_
  refine g_iload hX (pc := 640) dL_law_640 4 rfl ?_
  refine g_iconst hX (pc := 642) (v := 1) dL_law_642 (by decide) ?_
  refine g_iadd hX (pc := 643) dL_law_643 ?_
  obtain ⟨v5, e_v5, h⟩ := bnd h
  refine g_sldE hX (pc := 644) hsc e_v5 dL_law_644 ?_
  obtain ⟨r6, e_r6, h⟩ := bnd h
  refine g_callVi hX (pc := 645) (d := d + 40) hr0 [.int v5] (c := 5) (ct_X5_by (d := d + 37) (gd_some e_g4) e_r6) (gd_some e_g4).1.1 (gd_some e_g4).1.2 (by decide) rfl co_X5_by ml_L_83 im_X5_by sl_X5_by ini_X5 nm_X5_by (by decide) (by omega) (Nat.le_refl _) (Nat.le_of_ble_eq_true rfl) rfl dL_law_645 ?_
  refine g_icmp_eq hX (pc := 648) dL_law_648 (tgt := 982) (by decide) (fun c7 => ?_) (fun c7 => ?_)
  · replace h := ifP c7 h
    refine g_widen (kc := uc + 10) (ks := us + 2127) (by omega) (by omega) ?_
    exact KZ ((r2.2.1, J, r6.2)) (Option.some.inj h)
  · replace h := ifN c7 h
    refine g_iconst hX (pc := 651) (v := 0) dL_law_651 (by decide) ?_
    cases h
noncomputable def f_Lc_14 (x t u m L : Nat) (xs : Nat → Int32) (i : Int32) (z : Sh) (J : MJ) (I : MI) : Option (Sh × MJ × MI) :=
  (rd L xs (i + 1)).bind fun v1 =>
  (rd L xs (i + 2)).bind fun v2 =>
  (f_X4_belt x t u v1 v2 I).bind fun r3 =>
  (rd L xs (i + 1)).bind fun v4 =>
  (rd L xs (i + 2)).bind fun v5 =>
  (f_X5_belt m v4 v5 J I).bind fun r6 =>
  if r3 = r6.1 then
    some ((z, J, r6.2))
  else
    none
set_option maxRecDepth 100000 in
set_option maxHeartbeats 4000000 in
theorem lc_14 {E : Ev} {X : Xt} {Q : State → Prop} {b x t u m o L : Nat} {xs : Nat → Int32} {i : Int32} {z : Sh} {J : MJ} {I : MI} {uc us d : Nat} {zz : Sh} {Jz : MJ} {Iz : MI} (hX : Cx E X cL_law 7 (some .boolean) RL) (hr0 : RmOk X (d + 41) 601024 7293034) (hu : uc + 10 ≤ 601024 ∧ us + 2127 ≤ 7293034) (hsc : Scr E X b L xs) (hx : oX4 z x t u) (hm : oX5 z m) (h : f_Lc_14 x t u m L xs i z J I = some (zz, Jz, Iz)) (K : GW E X Q 7 982 [(0, .ref b), (1, .ref x), (2, .ref m), (3, .ref o), (4, .int i)] [] zz Jz Iz (uc + 10) (us + 2127)) : GW E X Q 7 653 [(0, .ref b), (1, .ref x), (2, .ref m), (3, .ref o), (4, .int i)] [] z J I uc us := by
  unfold f_Lc_14 at h
  have KZ : ∀ q : Sh × MJ × MI, q = (zz, Jz, Iz) → GW E X Q 7 982 [(0, .ref b), (1, .ref x), (2, .ref m), (3, .ref o), (4, .int i)] [] q.1 q.2.1 q.2.2 (uc + 10) (us + 2127) := by intro q hq; subst hq; exact K
  refine g_aload_n hX (pc := 653) (i := 1) dL_law_653 rfl 1 rfl ?_
  refine g_aload_n hX (pc := 654) (i := 0) dL_law_654 rfl 0 rfl ?_
  refine g_iload hX (pc := 655) dL_law_655 4 rfl ?_
  refine g_iconst hX (pc := 657) (v := 1) dL_law_657 (by decide) ?_
  refine g_iadd hX (pc := 658) dL_law_658 ?_
  obtain ⟨v1, e_v1, h⟩ := bnd h
  refine g_sldE hX (pc := 659) hsc e_v1 dL_law_659 ?_
  refine g_aload_n hX (pc := 660) (i := 0) dL_law_660 rfl 0 rfl ?_
  refine g_iload hX (pc := 661) dL_law_661 4 rfl ?_
  refine g_iconst hX (pc := 663) (v := 2) dL_law_663 (by decide) ?_
  refine g_iadd hX (pc := 664) dL_law_664 ?_
  obtain ⟨v2, e_v2, h⟩ := bnd h
  refine g_sldE hX (pc := 665) hsc e_v2 dL_law_665 ?_
  obtain ⟨r3, e_r3, h⟩ := bnd h
  refine g_callVi hX (pc := 666) (d := d + 40) hr0 [.int v1, .int v2] (c := 4) (ct_X4_belt (d := d + 38) hx e_r3) hx.1.1 hx.1.2 (by decide) rfl co_X4_belt ml_L_84 im_X4_belt sl_X4_belt ini_X4 nm_X4_belt (by decide) (by omega) (Nat.le_refl _) (Nat.le_of_ble_eq_true rfl) rfl dL_law_666 ?_
  refine g_aload_n hX (pc := 669) (i := 2) dL_law_669 rfl 2 rfl ?_
  refine g_aload_n hX (pc := 670) (i := 0) dL_law_670 rfl 0 rfl ?_
  refine g_iload hX (pc := 671) dL_law_671 4 rfl ?_
  refine g_iconst hX (pc := 673) (v := 1) dL_law_673 (by decide) ?_
  refine g_iadd hX (pc := 674) dL_law_674 ?_
  obtain ⟨v4, e_v4, h⟩ := bnd h
  refine g_sldE hX (pc := 675) hsc e_v4 dL_law_675 ?_
  refine g_aload_n hX (pc := 676) (i := 0) dL_law_676 rfl 0 rfl ?_
  refine g_iload hX (pc := 677) dL_law_677 4 rfl ?_
  refine g_iconst hX (pc := 679) (v := 2) dL_law_679 (by decide) ?_
  refine g_iadd hX (pc := 680) dL_law_680 ?_
  obtain ⟨v5, e_v5, h⟩ := bnd h
  refine g_sldE hX (pc := 681) hsc e_v5 dL_law_681 ?_
  obtain ⟨r6, e_r6, h⟩ := bnd h
  refine g_callVi hX (pc := 682) (d := d + 40) hr0 [.int v4, .int v5] (c := 5) (ct_X5_belt (d := d + 38) hm e_r6) hm.1.1 hm.1.2 (by decide) rfl co_X5_belt ml_L_87 im_X5_belt sl_X5_belt ini_X5 nm_X5_belt (by decide) (by omega) (Nat.le_refl _) (Nat.le_of_ble_eq_true rfl) rfl dL_law_682 ?_
  refine g_icmp_eq hX (pc := 685) dL_law_685 (tgt := 982) (by decide) (fun c7 => ?_) (fun c7 => ?_)
  · replace h := ifP c7 h
    refine g_widen (kc := uc + 10) (ks := us + 2127) (by omega) (by omega) ?_
    exact KZ ((z, J, r6.2)) (Option.some.inj h)
  · replace h := ifN c7 h
    refine g_iconst hX (pc := 688) (v := 0) dL_law_688 (by decide) ?_
    cases h
noncomputable def f_Lc_15 (x t u m L : Nat) (xs : Nat → Int32) (i : Int32) (z : Sh) (J : MJ) (I : MI) : Option (Sh × MJ × MI) :=
  (rd L xs (i + 1)).bind fun v1 =>
  (rd L xs (i + 2)).bind fun v2 =>
  (f_X4_aside x t u v1 v2 I).bind fun r3 =>
  (rd L xs (i + 1)).bind fun v4 =>
  (rd L xs (i + 2)).bind fun v5 =>
  (f_X5_aside m v4 v5 J I).bind fun r6 =>
  if r3 = r6.1 then
    some ((z, J, r6.2))
  else
    none
set_option maxRecDepth 100000 in
set_option maxHeartbeats 4000000 in
theorem lc_15 {E : Ev} {X : Xt} {Q : State → Prop} {b x t u m o L : Nat} {xs : Nat → Int32} {i : Int32} {z : Sh} {J : MJ} {I : MI} {uc us d : Nat} {zz : Sh} {Jz : MJ} {Iz : MI} (hX : Cx E X cL_law 7 (some .boolean) RL) (hr0 : RmOk X (d + 41) 601024 7293034) (hu : uc + 10 ≤ 601024 ∧ us + 2127 ≤ 7293034) (hsc : Scr E X b L xs) (hx : oX4 z x t u) (hm : oX5 z m) (h : f_Lc_15 x t u m L xs i z J I = some (zz, Jz, Iz)) (K : GW E X Q 7 982 [(0, .ref b), (1, .ref x), (2, .ref m), (3, .ref o), (4, .int i)] [] zz Jz Iz (uc + 10) (us + 2127)) : GW E X Q 7 690 [(0, .ref b), (1, .ref x), (2, .ref m), (3, .ref o), (4, .int i)] [] z J I uc us := by
  unfold f_Lc_15 at h
  have KZ : ∀ q : Sh × MJ × MI, q = (zz, Jz, Iz) → GW E X Q 7 982 [(0, .ref b), (1, .ref x), (2, .ref m), (3, .ref o), (4, .int i)] [] q.1 q.2.1 q.2.2 (uc + 10) (us + 2127) := by intro q hq; subst hq; exact K
  refine g_aload_n hX (pc := 690) (i := 1) dL_law_690 rfl 1 rfl ?_
  refine g_aload_n hX (pc := 691) (i := 0) dL_law_691 rfl 0 rfl ?_
  refine g_iload hX (pc := 692) dL_law_692 4 rfl ?_
  refine g_iconst hX (pc := 694) (v := 1) dL_law_694 (by decide) ?_
  refine g_iadd hX (pc := 695) dL_law_695 ?_
  obtain ⟨v1, e_v1, h⟩ := bnd h
  refine g_sldE hX (pc := 696) hsc e_v1 dL_law_696 ?_
  refine g_aload_n hX (pc := 697) (i := 0) dL_law_697 rfl 0 rfl ?_
  refine g_iload hX (pc := 698) dL_law_698 4 rfl ?_
  refine g_iconst hX (pc := 700) (v := 2) dL_law_700 (by decide) ?_
  refine g_iadd hX (pc := 701) dL_law_701 ?_
  obtain ⟨v2, e_v2, h⟩ := bnd h
  refine g_sldE hX (pc := 702) hsc e_v2 dL_law_702 ?_
  obtain ⟨r3, e_r3, h⟩ := bnd h
  refine g_callVi hX (pc := 703) (d := d + 40) hr0 [.int v1, .int v2] (c := 4) (ct_X4_aside (d := d + 38) hx e_r3) hx.1.1 hx.1.2 (by decide) rfl co_X4_aside ml_L_88 im_X4_aside sl_X4_aside ini_X4 nm_X4_aside (by decide) (by omega) (Nat.le_refl _) (Nat.le_of_ble_eq_true rfl) rfl dL_law_703 ?_
  refine g_aload_n hX (pc := 706) (i := 2) dL_law_706 rfl 2 rfl ?_
  refine g_aload_n hX (pc := 707) (i := 0) dL_law_707 rfl 0 rfl ?_
  refine g_iload hX (pc := 708) dL_law_708 4 rfl ?_
  refine g_iconst hX (pc := 710) (v := 1) dL_law_710 (by decide) ?_
  refine g_iadd hX (pc := 711) dL_law_711 ?_
  obtain ⟨v4, e_v4, h⟩ := bnd h
  refine g_sldE hX (pc := 712) hsc e_v4 dL_law_712 ?_
  refine g_aload_n hX (pc := 713) (i := 0) dL_law_713 rfl 0 rfl ?_
  refine g_iload hX (pc := 714) dL_law_714 4 rfl ?_
  refine g_iconst hX (pc := 716) (v := 2) dL_law_716 (by decide) ?_
  refine g_iadd hX (pc := 717) dL_law_717 ?_
  obtain ⟨v5, e_v5, h⟩ := bnd h
  refine g_sldE hX (pc := 718) hsc e_v5 dL_law_718 ?_
  obtain ⟨r6, e_r6, h⟩ := bnd h
  refine g_callVi hX (pc := 719) (d := d + 40) hr0 [.int v4, .int v5] (c := 5) (ct_X5_aside (d := d + 38) hm e_r6) hm.1.1 hm.1.2 (by decide) rfl co_X5_aside ml_L_91 im_X5_aside sl_X5_aside ini_X5 nm_X5_aside (by decide) (by omega) (Nat.le_refl _) (Nat.le_of_ble_eq_true rfl) rfl dL_law_719 ?_
  refine g_icmp_eq hX (pc := 722) dL_law_722 (tgt := 982) (by decide) (fun c7 => ?_) (fun c7 => ?_)
  · replace h := ifP c7 h
    refine g_widen (kc := uc + 10) (ks := us + 2127) (by omega) (by omega) ?_
    exact KZ ((z, J, r6.2)) (Option.some.inj h)
  · replace h := ifN c7 h
    refine g_iconst hX (pc := 725) (v := 0) dL_law_725 (by decide) ?_
    cases h
noncomputable def f_Lc_16 (x t u m L : Nat) (xs : Nat → Int32) (i : Int32) (z : Sh) (J : MJ) (I : MI) : Option (Sh × MJ × MI) :=
  (rd L xs (i + 1)).bind fun v1 =>
  (f_X4_hole x t u v1 I).bind fun r2 =>
  (rd L xs (i + 1)).bind fun v3 =>
  (f_X5_hole m v3 J I).bind fun r4 =>
  if r2 = r4.1 then
    some ((z, J, r4.2))
  else
    none
set_option maxRecDepth 100000 in
set_option maxHeartbeats 4000000 in
theorem lc_16 {E : Ev} {X : Xt} {Q : State → Prop} {b x t u m o L : Nat} {xs : Nat → Int32} {i : Int32} {z : Sh} {J : MJ} {I : MI} {uc us d : Nat} {zz : Sh} {Jz : MJ} {Iz : MI} (hX : Cx E X cL_law 7 (some .boolean) RL) (hr0 : RmOk X (d + 41) 601024 7293034) (hu : uc + 10 ≤ 601024 ∧ us + 2127 ≤ 7293034) (hsc : Scr E X b L xs) (hx : oX4 z x t u) (hm : oX5 z m) (h : f_Lc_16 x t u m L xs i z J I = some (zz, Jz, Iz)) (K : GW E X Q 7 982 [(0, .ref b), (1, .ref x), (2, .ref m), (3, .ref o), (4, .int i)] [] zz Jz Iz (uc + 10) (us + 2127)) : GW E X Q 7 727 [(0, .ref b), (1, .ref x), (2, .ref m), (3, .ref o), (4, .int i)] [] z J I uc us := by
  unfold f_Lc_16 at h
  have KZ : ∀ q : Sh × MJ × MI, q = (zz, Jz, Iz) → GW E X Q 7 982 [(0, .ref b), (1, .ref x), (2, .ref m), (3, .ref o), (4, .int i)] [] q.1 q.2.1 q.2.2 (uc + 10) (us + 2127) := by intro q hq; subst hq; exact K
  refine g_aload_n hX (pc := 727) (i := 1) dL_law_727 rfl 1 rfl ?_
  refine g_aload_n hX (pc := 728) (i := 0) dL_law_728 rfl 0 rfl ?_
  refine g_iload hX (pc := 729) dL_law_729 4 rfl ?_
  refine g_iconst hX (pc := 731) (v := 1) dL_law_731 (by decide) ?_
  refine g_iadd hX (pc := 732) dL_law_732 ?_
  obtain ⟨v1, e_v1, h⟩ := bnd h
  refine g_sldE hX (pc := 733) hsc e_v1 dL_law_733 ?_
  obtain ⟨r2, e_r2, h⟩ := bnd h
  refine g_callVi hX (pc := 734) (d := d + 40) hr0 [.int v1] (c := 4) (ct_X4_hole (d := d + 40) hx e_r2) hx.1.1 hx.1.2 (by decide) rfl co_X4_hole ml_L_92 im_X4_hole sl_X4_hole ini_X4 nm_X4_hole (by decide) (by omega) (Nat.le_refl _) (Nat.le_of_ble_eq_true rfl) rfl dL_law_734 ?_
  refine g_aload_n hX (pc := 737) (i := 2) dL_law_737 rfl 2 rfl ?_
  refine g_aload_n hX (pc := 738) (i := 0) dL_law_738 rfl 0 rfl ?_
  refine g_iload hX (pc := 739) dL_law_739 4 rfl ?_
  refine g_iconst hX (pc := 741) (v := 1) dL_law_741 (by decide) ?_
  refine g_iadd hX (pc := 742) dL_law_742 ?_
  obtain ⟨v3, e_v3, h⟩ := bnd h
  refine g_sldE hX (pc := 743) hsc e_v3 dL_law_743 ?_
  obtain ⟨r4, e_r4, h⟩ := bnd h
  refine g_callVi hX (pc := 744) (d := d + 40) hr0 [.int v3] (c := 5) (ct_X5_hole (d := d + 39) hm e_r4) hm.1.1 hm.1.2 (by decide) rfl co_X5_hole ml_L_95 im_X5_hole sl_X5_hole ini_X5 nm_X5_hole (by decide) (by omega) (Nat.le_refl _) (Nat.le_of_ble_eq_true rfl) rfl dL_law_744 ?_
  refine g_icmp_eq hX (pc := 747) dL_law_747 (tgt := 982) (by decide) (fun c5 => ?_) (fun c5 => ?_)
  · replace h := ifP c5 h
    refine g_widen (kc := uc + 10) (ks := us + 2127) (by omega) (by omega) ?_
    exact KZ ((z, J, r4.2)) (Option.some.inj h)
  · replace h := ifN c5 h
    refine g_iconst hX (pc := 750) (v := 0) dL_law_750 (by decide) ?_
    cases h
noncomputable def f_Lc_17 (x t u m L : Nat) (xs : Nat → Int32) (i : Int32) (z : Sh) (J : MJ) (I : MI) : Option (Sh × MJ × MI) :=
  (rd L xs (i + 1)).bind fun v1 =>
  (f_X4_whole x t u v1 I).bind fun r2 =>
  (rd L xs (i + 1)).bind fun v3 =>
  (f_X5_whole m v3 J I).bind fun r4 =>
  if r2 = r4.1 then
    some ((z, J, r4.2))
  else
    none
set_option maxRecDepth 100000 in
set_option maxHeartbeats 4000000 in
theorem lc_17 {E : Ev} {X : Xt} {Q : State → Prop} {b x t u m o L : Nat} {xs : Nat → Int32} {i : Int32} {z : Sh} {J : MJ} {I : MI} {uc us d : Nat} {zz : Sh} {Jz : MJ} {Iz : MI} (hX : Cx E X cL_law 7 (some .boolean) RL) (hr0 : RmOk X (d + 41) 601024 7293034) (hu : uc + 10 ≤ 601024 ∧ us + 2127 ≤ 7293034) (hsc : Scr E X b L xs) (hx : oX4 z x t u) (hm : oX5 z m) (h : f_Lc_17 x t u m L xs i z J I = some (zz, Jz, Iz)) (K : GW E X Q 7 982 [(0, .ref b), (1, .ref x), (2, .ref m), (3, .ref o), (4, .int i)] [] zz Jz Iz (uc + 10) (us + 2127)) : GW E X Q 7 752 [(0, .ref b), (1, .ref x), (2, .ref m), (3, .ref o), (4, .int i)] [] z J I uc us := by
  unfold f_Lc_17 at h
  have KZ : ∀ q : Sh × MJ × MI, q = (zz, Jz, Iz) → GW E X Q 7 982 [(0, .ref b), (1, .ref x), (2, .ref m), (3, .ref o), (4, .int i)] [] q.1 q.2.1 q.2.2 (uc + 10) (us + 2127) := by intro q hq; subst hq; exact K
  refine g_aload_n hX (pc := 752) (i := 1) dL_law_752 rfl 1 rfl ?_
  refine g_aload_n hX (pc := 753) (i := 0) dL_law_753 rfl 0 rfl ?_
  refine g_iload hX (pc := 754) dL_law_754 4 rfl ?_
  refine g_iconst hX (pc := 756) (v := 1) dL_law_756 (by decide) ?_
  refine g_iadd hX (pc := 757) dL_law_757 ?_
  obtain ⟨v1, e_v1, h⟩ := bnd h
  refine g_sldE hX (pc := 758) hsc e_v1 dL_law_758 ?_
  obtain ⟨r2, e_r2, h⟩ := bnd h
  refine g_callVi hX (pc := 759) (d := d + 40) hr0 [.int v1] (c := 4) (ct_X4_whole (d := d + 40) hx e_r2) hx.1.1 hx.1.2 (by decide) rfl co_X4_whole ml_L_96 im_X4_whole sl_X4_whole ini_X4 nm_X4_whole (by decide) (by omega) (Nat.le_refl _) (Nat.le_of_ble_eq_true rfl) rfl dL_law_759 ?_
  refine g_aload_n hX (pc := 762) (i := 2) dL_law_762 rfl 2 rfl ?_
  refine g_aload_n hX (pc := 763) (i := 0) dL_law_763 rfl 0 rfl ?_
  refine g_iload hX (pc := 764) dL_law_764 4 rfl ?_
  refine g_iconst hX (pc := 766) (v := 1) dL_law_766 (by decide) ?_
  refine g_iadd hX (pc := 767) dL_law_767 ?_
  obtain ⟨v3, e_v3, h⟩ := bnd h
  refine g_sldE hX (pc := 768) hsc e_v3 dL_law_768 ?_
  obtain ⟨r4, e_r4, h⟩ := bnd h
  refine g_callVi hX (pc := 769) (d := d + 40) hr0 [.int v3] (c := 5) (ct_X5_whole (d := d + 39) hm e_r4) hm.1.1 hm.1.2 (by decide) rfl co_X5_whole ml_L_99 im_X5_whole sl_X5_whole ini_X5 nm_X5_whole (by decide) (by omega) (Nat.le_refl _) (Nat.le_of_ble_eq_true rfl) rfl dL_law_769 ?_
  refine g_icmp_eq hX (pc := 772) dL_law_772 (tgt := 982) (by decide) (fun c5 => ?_) (fun c5 => ?_)
  · replace h := ifP c5 h
    refine g_widen (kc := uc + 10) (ks := us + 2127) (by omega) (by omega) ?_
    exact KZ ((z, J, r4.2)) (Option.some.inj h)
  · replace h := ifN c5 h
    refine g_iconst hX (pc := 775) (v := 0) dL_law_775 (by decide) ?_
    cases h
noncomputable def f_Lc_18 (x t u m L : Nat) (xs : Nat → Int32) (i : Int32) (z : Sh) (J : MJ) (I : MI) : Option (Sh × MJ × MI) :=
  (f_X4_stuck x t u I).bind fun r1 =>
  (f_X5_stuck m J I).bind fun r2 =>
  if r1 = r2.1 then
    some ((z, J, r2.2))
  else
    none
set_option maxRecDepth 100000 in
set_option maxHeartbeats 4000000 in
theorem lc_18 {E : Ev} {X : Xt} {Q : State → Prop} {b x t u m o L : Nat} {xs : Nat → Int32} {i : Int32} {z : Sh} {J : MJ} {I : MI} {uc us d : Nat} {zz : Sh} {Jz : MJ} {Iz : MI} (hX : Cx E X cL_law 7 (some .boolean) RL) (hr0 : RmOk X (d + 41) 601024 7293034) (hu : uc + 10 ≤ 601024 ∧ us + 2127 ≤ 7293034) (hsc : Scr E X b L xs) (hx : oX4 z x t u) (hm : oX5 z m) (h : f_Lc_18 x t u m L xs i z J I = some (zz, Jz, Iz)) (K : GW E X Q 7 982 [(0, .ref b), (1, .ref x), (2, .ref m), (3, .ref o), (4, .int i)] [] zz Jz Iz (uc + 10) (us + 2127)) : GW E X Q 7 777 [(0, .ref b), (1, .ref x), (2, .ref m), (3, .ref o), (4, .int i)] [] z J I uc us := by
  unfold f_Lc_18 at h
  have KZ : ∀ q : Sh × MJ × MI, q = (zz, Jz, Iz) → GW E X Q 7 982 [(0, .ref b), (1, .ref x), (2, .ref m), (3, .ref o), (4, .int i)] [] q.1 q.2.1 q.2.2 (uc + 10) (us + 2127) := by intro q hq; subst hq; exact K
  refine g_aload_n hX (pc := 777) (i := 1) dL_law_777 rfl 1 rfl ?_
  obtain ⟨r1, e_r1, h⟩ := bnd h
  refine g_callVi hX (pc := 778) (d := d + 40) hr0 [] (c := 4) (ct_X4_stuck (d := d + 37) hx e_r1) hx.1.1 hx.1.2 (by decide) rfl co_X4_stuck ml_L_100 im_X4_stuck sl_X4_stuck ini_X4 nm_X4_stuck (by decide) (by omega) (Nat.le_refl _) (Nat.le_of_ble_eq_true rfl) rfl dL_law_778 ?_
  refine g_aload_n hX (pc := 781) (i := 2) dL_law_781 rfl 2 rfl ?_
  obtain ⟨r2, e_r2, h⟩ := bnd h
  refine g_callVi hX (pc := 782) (d := d + 40) hr0 [] (c := 5) (ct_X5_stuck (d := d + 39) hm e_r2) hm.1.1 hm.1.2 (by decide) rfl co_X5_stuck ml_L_103 im_X5_stuck sl_X5_stuck ini_X5 nm_X5_stuck (by decide) (by omega) (Nat.le_refl _) (Nat.le_of_ble_eq_true rfl) rfl dL_law_782 ?_
  refine g_icmp_eq hX (pc := 785) dL_law_785 (tgt := 982) (by decide) (fun c3 => ?_) (fun c3 => ?_)
  · replace h := ifP c3 h
    refine g_widen (kc := uc + 10) (ks := us + 2127) (by omega) (by omega) ?_
    exact KZ ((z, J, r2.2)) (Option.some.inj h)
  · replace h := ifN c3 h
    refine g_iconst hX (pc := 788) (v := 0) dL_law_788 (by decide) ?_
    cases h
noncomputable def f_Lc_19 (x t u m L : Nat) (xs : Nat → Int32) (i : Int32) (z : Sh) (J : MJ) (I : MI) : Option (Sh × MJ × MI) :=
  (f_X4_needs x t u I).bind fun r1 =>
  (f_X5_needs m J r1.2).bind fun r2 =>
  if r1.1 = r2.1 then
    some ((z, J, r2.2))
  else
    none
set_option maxRecDepth 100000 in
set_option maxHeartbeats 4000000 in
theorem lc_19 {E : Ev} {X : Xt} {Q : State → Prop} {b x t u m o L : Nat} {xs : Nat → Int32} {i : Int32} {z : Sh} {J : MJ} {I : MI} {uc us d : Nat} {zz : Sh} {Jz : MJ} {Iz : MI} (hX : Cx E X cL_law 7 (some .boolean) RL) (hr0 : RmOk X (d + 41) 601024 7293034) (hu : uc + 10 ≤ 601024 ∧ us + 2127 ≤ 7293034) (hsc : Scr E X b L xs) (hx : oX4 z x t u) (hm : oX5 z m) (h : f_Lc_19 x t u m L xs i z J I = some (zz, Jz, Iz)) (K : GW E X Q 7 982 [(0, .ref b), (1, .ref x), (2, .ref m), (3, .ref o), (4, .int i)] [] zz Jz Iz (uc + 10) (us + 2127)) : GW E X Q 7 790 [(0, .ref b), (1, .ref x), (2, .ref m), (3, .ref o), (4, .int i)] [] z J I uc us := by
  unfold f_Lc_19 at h
  have KZ : ∀ q : Sh × MJ × MI, q = (zz, Jz, Iz) → GW E X Q 7 982 [(0, .ref b), (1, .ref x), (2, .ref m), (3, .ref o), (4, .int i)] [] q.1 q.2.1 q.2.2 (uc + 10) (us + 2127) := by intro q hq; subst hq; exact K
  refine g_aload_n hX (pc := 790) (i := 1) dL_law_790 rfl 1 rfl ?_
  obtain ⟨r1, e_r1, h⟩ := bnd h
  refine g_callVi hX (pc := 791) (d := d + 40) hr0 [] (c := 4) (ct_X4_needs (d := d + 36) hx e_r1) hx.1.1 hx.1.2 (by decide) rfl co_X4_needs ml_L_104 im_X4_needs sl_X4_needs ini_X4 nm_X4_needs (by decide) (by omega) (Nat.le_refl _) (Nat.le_of_ble_eq_true rfl) rfl dL_law_791 ?_
  refine g_aload_n hX (pc := 794) (i := 2) dL_law_794 rfl 2 rfl ?_
  obtain ⟨r2, e_r2, h⟩ := bnd h
  refine g_callVi hX (pc := 795) (d := d + 40) hr0 [] (c := 5) (ct_X5_needs (d := d + 36) hm e_r2) hm.1.1 hm.1.2 (by decide) rfl co_X5_needs ml_L_107 im_X5_needs sl_X5_needs ini_X5 nm_X5_needs (by decide) (by omega) (Nat.le_refl _) (Nat.le_of_ble_eq_true rfl) rfl dL_law_795 ?_
  refine g_icmp_eq hX (pc := 798) dL_law_798 (tgt := 982) (by decide) (fun c3 => ?_) (fun c3 => ?_)
  · replace h := ifP c3 h
    refine g_widen (kc := uc + 10) (ks := us + 2127) (by omega) (by omega) ?_
    exact KZ ((z, J, r2.2)) (Option.some.inj h)
  · replace h := ifN c3 h
    refine g_iconst hX (pc := 801) (v := 0) dL_law_801 (by decide) ?_
    cases h
noncomputable def f_Lc_20 (x t u m L : Nat) (xs : Nat → Int32) (i : Int32) (z : Sh) (J : MJ) (I : MI) : Option (Sh × MJ × MI) :=
  (rd L xs (i + 1)).bind fun v1 =>
  (f_X4_best x t u v1 I).bind fun r2 =>
  (rd L xs (i + 1)).bind fun v3 =>
  (f_X5_best m v3 J r2.2).bind fun r4 =>
  if r2.1 = r4.1 then
    some ((z, J, r4.2))
  else
    none
set_option maxRecDepth 100000 in
set_option maxHeartbeats 4000000 in
theorem lc_20 {E : Ev} {X : Xt} {Q : State → Prop} {b x t u m o L : Nat} {xs : Nat → Int32} {i : Int32} {z : Sh} {J : MJ} {I : MI} {uc us d : Nat} {zz : Sh} {Jz : MJ} {Iz : MI} (hX : Cx E X cL_law 7 (some .boolean) RL) (hr0 : RmOk X (d + 41) 601024 7293034) (hu : uc + 10 ≤ 601024 ∧ us + 2127 ≤ 7293034) (hsc : Scr E X b L xs) (hx : oX4 z x t u) (hm : oX5 z m) (h : f_Lc_20 x t u m L xs i z J I = some (zz, Jz, Iz)) (K : GW E X Q 7 982 [(0, .ref b), (1, .ref x), (2, .ref m), (3, .ref o), (4, .int i)] [] zz Jz Iz (uc + 10) (us + 2127)) : GW E X Q 7 803 [(0, .ref b), (1, .ref x), (2, .ref m), (3, .ref o), (4, .int i)] [] z J I uc us := by
  unfold f_Lc_20 at h
  have KZ : ∀ q : Sh × MJ × MI, q = (zz, Jz, Iz) → GW E X Q 7 982 [(0, .ref b), (1, .ref x), (2, .ref m), (3, .ref o), (4, .int i)] [] q.1 q.2.1 q.2.2 (uc + 10) (us + 2127) := by intro q hq; subst hq; exact K
  refine g_aload_n hX (pc := 803) (i := 1) dL_law_803 rfl 1 rfl ?_
  refine g_aload_n hX (pc := 804) (i := 0) dL_law_804 rfl 0 rfl ?_
  refine g_iload hX (pc := 805) dL_law_805 4 rfl ?_
  refine g_iconst hX (pc := 807) (v := 1) dL_law_807 (by decide) ?_
  refine g_iadd hX (pc := 808) dL_law_808 ?_
  obtain ⟨v1, e_v1, h⟩ := bnd h
  refine g_sldE hX (pc := 809) hsc e_v1 dL_law_809 ?_
  obtain ⟨r2, e_r2, h⟩ := bnd h
  refine g_callVi hX (pc := 810) (d := d + 40) hr0 [.int v1] (c := 4) (ct_X4_best (d := d + 34) hx e_r2) hx.1.1 hx.1.2 (by decide) rfl co_X4_best ml_L_108 im_X4_best sl_X4_best ini_X4 nm_X4_best (by decide) (by omega) (Nat.le_refl _) (Nat.le_of_ble_eq_true rfl) rfl dL_law_810 ?_
  refine g_aload_n hX (pc := 813) (i := 2) dL_law_813 rfl 2 rfl ?_
  refine g_aload_n hX (pc := 814) (i := 0) dL_law_814 rfl 0 rfl ?_
  refine g_iload hX (pc := 815) dL_law_815 4 rfl ?_
  refine g_iconst hX (pc := 817) (v := 1) dL_law_817 (by decide) ?_
  refine g_iadd hX (pc := 818) dL_law_818 ?_
  obtain ⟨v3, e_v3, h⟩ := bnd h
  refine g_sldE hX (pc := 819) hsc e_v3 dL_law_819 ?_
  obtain ⟨r4, e_r4, h⟩ := bnd h
  refine g_callVi hX (pc := 820) (d := d + 40) hr0 [.int v3] (c := 5) (ct_X5_best (d := d + 29) hm e_r4) hm.1.1 hm.1.2 (by decide) rfl co_X5_best ml_L_111 im_X5_best sl_X5_best ini_X5 nm_X5_best (by decide) (by omega) (Nat.le_refl _) (Nat.le_of_ble_eq_true rfl) rfl dL_law_820 ?_
  refine g_icmp_eq hX (pc := 823) dL_law_823 (tgt := 982) (by decide) (fun c5 => ?_) (fun c5 => ?_)
  · replace h := ifP c5 h
    refine g_widen (kc := uc + 10) (ks := us + 2127) (by omega) (by omega) ?_
    exact KZ ((z, J, r4.2)) (Option.some.inj h)
  · replace h := ifN c5 h
    refine g_iconst hX (pc := 826) (v := 0) dL_law_826 (by decide) ?_
    cases h
noncomputable def f_Lc_21 (x t u m L : Nat) (xs : Nat → Int32) (i : Int32) (z : Sh) (J : MJ) (I : MI) : Option (Sh × MJ × MI) :=
  (rd L xs (i + 1)).bind fun v1 =>
  (rd L xs (i + 2)).bind fun v2 =>
  (f_X4_sizes x t u v1 v2 I).bind fun r3 =>
  (rd L xs (i + 1)).bind fun v4 =>
  (rd L xs (i + 2)).bind fun v5 =>
  (f_X5_sizes m v4 v5 J I).bind fun r6 =>
  if r3 = r6.1 then
    some ((z, J, r6.2))
  else
    none
set_option maxRecDepth 100000 in
set_option maxHeartbeats 4000000 in
theorem lc_21 {E : Ev} {X : Xt} {Q : State → Prop} {b x t u m o L : Nat} {xs : Nat → Int32} {i : Int32} {z : Sh} {J : MJ} {I : MI} {uc us d : Nat} {zz : Sh} {Jz : MJ} {Iz : MI} (hX : Cx E X cL_law 7 (some .boolean) RL) (hr0 : RmOk X (d + 41) 601024 7293034) (hu : uc + 10 ≤ 601024 ∧ us + 2127 ≤ 7293034) (hsc : Scr E X b L xs) (hx : oX4 z x t u) (hm : oX5 z m) (h : f_Lc_21 x t u m L xs i z J I = some (zz, Jz, Iz)) (K : GW E X Q 7 982 [(0, .ref b), (1, .ref x), (2, .ref m), (3, .ref o), (4, .int i)] [] zz Jz Iz (uc + 10) (us + 2127)) : GW E X Q 7 828 [(0, .ref b), (1, .ref x), (2, .ref m), (3, .ref o), (4, .int i)] [] z J I uc us := by
  unfold f_Lc_21 at h
  have KZ : ∀ q : Sh × MJ × MI, q = (zz, Jz, Iz) → GW E X Q 7 982 [(0, .ref b), (1, .ref x), (2, .ref m), (3, .ref o), (4, .int i)] [] q.1 q.2.1 q.2.2 (uc + 10) (us + 2127) := by intro q hq; subst hq; exact K
  refine g_aload_n hX (pc := 828) (i := 1) dL_law_828 rfl 1 rfl ?_
  refine g_aload_n hX (pc := 829) (i := 0) dL_law_829 rfl 0 rfl ?_
  refine g_iload hX (pc := 830) dL_law_830 4 rfl ?_
  refine g_iconst hX (pc := 832) (v := 1) dL_law_832 (by decide) ?_
  refine g_iadd hX (pc := 833) dL_law_833 ?_
  obtain ⟨v1, e_v1, h⟩ := bnd h
  refine g_sldE hX (pc := 834) hsc e_v1 dL_law_834 ?_
  refine g_aload_n hX (pc := 835) (i := 0) dL_law_835 rfl 0 rfl ?_
  refine g_iload hX (pc := 836) dL_law_836 4 rfl ?_
  refine g_iconst hX (pc := 838) (v := 2) dL_law_838 (by decide) ?_
  refine g_iadd hX (pc := 839) dL_law_839 ?_
  obtain ⟨v2, e_v2, h⟩ := bnd h
  refine g_sldE hX (pc := 840) hsc e_v2 dL_law_840 ?_
  obtain ⟨r3, e_r3, h⟩ := bnd h
  refine g_callVi hX (pc := 841) (d := d + 40) hr0 [.int v1, .int v2] (c := 4) (ct_X4_sizes (d := d + 36) hx e_r3) hx.1.1 hx.1.2 (by decide) rfl co_X4_sizes ml_L_112 im_X4_sizes sl_X4_sizes ini_X4 nm_X4_sizes (by decide) (by omega) (Nat.le_refl _) (Nat.le_of_ble_eq_true rfl) rfl dL_law_841 ?_
  refine g_aload_n hX (pc := 844) (i := 2) dL_law_844 rfl 2 rfl ?_
  refine g_aload_n hX (pc := 845) (i := 0) dL_law_845 rfl 0 rfl ?_
  refine g_iload hX (pc := 846) dL_law_846 4 rfl ?_
  refine g_iconst hX (pc := 848) (v := 1) dL_law_848 (by decide) ?_
  refine g_iadd hX (pc := 849) dL_law_849 ?_
  obtain ⟨v4, e_v4, h⟩ := bnd h
  refine g_sldE hX (pc := 850) hsc e_v4 dL_law_850 ?_
  refine g_aload_n hX (pc := 851) (i := 0) dL_law_851 rfl 0 rfl ?_
  refine g_iload hX (pc := 852) dL_law_852 4 rfl ?_
  refine g_iconst hX (pc := 854) (v := 2) dL_law_854 (by decide) ?_
  refine g_iadd hX (pc := 855) dL_law_855 ?_
  obtain ⟨v5, e_v5, h⟩ := bnd h
  refine g_sldE hX (pc := 856) hsc e_v5 dL_law_856 ?_
  obtain ⟨r6, e_r6, h⟩ := bnd h
  refine g_callVi hX (pc := 857) (d := d + 40) hr0 [.int v4, .int v5] (c := 5) (ct_X5_sizes (d := d + 36) hm e_r6) hm.1.1 hm.1.2 (by decide) rfl co_X5_sizes ml_L_115 im_X5_sizes sl_X5_sizes ini_X5 nm_X5_sizes (by decide) (by omega) (Nat.le_refl _) (Nat.le_of_ble_eq_true rfl) rfl dL_law_857 ?_
  refine g_icmp_eq hX (pc := 860) dL_law_860 (tgt := 982) (by decide) (fun c7 => ?_) (fun c7 => ?_)
  · replace h := ifP c7 h
    refine g_widen (kc := uc + 10) (ks := us + 2127) (by omega) (by omega) ?_
    exact KZ ((z, J, r6.2)) (Option.some.inj h)
  · replace h := ifN c7 h
    refine g_iconst hX (pc := 863) (v := 0) dL_law_863 (by decide) ?_
    cases h
noncomputable def f_Lc_22 (x t u m L : Nat) (xs : Nat → Int32) (i : Int32) (z : Sh) (J : MJ) (I : MI) : Option (Sh × MJ × MI) :=
  (f_X4_bestSize x t u I).bind fun r1 =>
  (f_X5_bestSize m J I).bind fun r2 =>
  if r1 = r2.1 then
    some ((z, J, r2.2))
  else
    none
set_option maxRecDepth 100000 in
set_option maxHeartbeats 4000000 in
theorem lc_22 {E : Ev} {X : Xt} {Q : State → Prop} {b x t u m o L : Nat} {xs : Nat → Int32} {i : Int32} {z : Sh} {J : MJ} {I : MI} {uc us d : Nat} {zz : Sh} {Jz : MJ} {Iz : MI} (hX : Cx E X cL_law 7 (some .boolean) RL) (hr0 : RmOk X (d + 41) 601024 7293034) (hu : uc + 10 ≤ 601024 ∧ us + 2127 ≤ 7293034) (hsc : Scr E X b L xs) (hx : oX4 z x t u) (hm : oX5 z m) (h : f_Lc_22 x t u m L xs i z J I = some (zz, Jz, Iz)) (K : GW E X Q 7 982 [(0, .ref b), (1, .ref x), (2, .ref m), (3, .ref o), (4, .int i)] [] zz Jz Iz (uc + 10) (us + 2127)) : GW E X Q 7 865 [(0, .ref b), (1, .ref x), (2, .ref m), (3, .ref o), (4, .int i)] [] z J I uc us := by
  unfold f_Lc_22 at h
  have KZ : ∀ q : Sh × MJ × MI, q = (zz, Jz, Iz) → GW E X Q 7 982 [(0, .ref b), (1, .ref x), (2, .ref m), (3, .ref o), (4, .int i)] [] q.1 q.2.1 q.2.2 (uc + 10) (us + 2127) := by intro q hq; subst hq; exact K
  refine g_aload_n hX (pc := 865) (i := 1) dL_law_865 rfl 1 rfl ?_
  obtain ⟨r1, e_r1, h⟩ := bnd h
  refine g_callVi hX (pc := 866) (d := d + 40) hr0 [] (c := 4) (ct_X4_bestSize (d := d + 36) hx e_r1) hx.1.1 hx.1.2 (by decide) rfl co_X4_bestSize ml_L_116 im_X4_bestSize sl_X4_bestSize ini_X4 nm_X4_bestSize (by decide) (by omega) (Nat.le_refl _) (Nat.le_of_ble_eq_true rfl) rfl dL_law_866 ?_
  refine g_aload_n hX (pc := 869) (i := 2) dL_law_869 rfl 2 rfl ?_
  obtain ⟨r2, e_r2, h⟩ := bnd h
  refine g_callVi hX (pc := 870) (d := d + 40) hr0 [] (c := 5) (ct_X5_bestSize (d := d + 36) hm e_r2) hm.1.1 hm.1.2 (by decide) rfl co_X5_bestSize ml_L_119 im_X5_bestSize sl_X5_bestSize ini_X5 nm_X5_bestSize (by decide) (by omega) (Nat.le_refl _) (Nat.le_of_ble_eq_true rfl) rfl dL_law_870 ?_
  refine g_icmp_eq hX (pc := 873) dL_law_873 (tgt := 982) (by decide) (fun c3 => ?_) (fun c3 => ?_)
  · replace h := ifP c3 h
    refine g_widen (kc := uc + 10) (ks := us + 2127) (by omega) (by omega) ?_
    exact KZ ((z, J, r2.2)) (Option.some.inj h)
  · replace h := ifN c3 h
    refine g_iconst hX (pc := 876) (v := 0) dL_law_876 (by decide) ?_
    cases h
noncomputable def f_Lc_23 (x t u m L : Nat) (xs : Nat → Int32) (i : Int32) (z : Sh) (J : MJ) (I : MI) : Option (Sh × MJ × MI) :=
  (f_X4_wouldBe x t u z I).bind fun r1 =>
  (gd (zs z ≤ zs r1.2.1)).bind fun g2 =>
  (gd (oX5 r1.2.1 m)).bind fun g3 =>
  (f_X5_wouldBe m J r1.2.2).bind fun r4 =>
  if r1.1 = r4.1 then
    some ((r1.2.1, J, r4.2))
  else
    none
set_option maxRecDepth 100000 in
set_option maxHeartbeats 4000000 in
theorem lc_23 {E : Ev} {X : Xt} {Q : State → Prop} {b x t u m o L : Nat} {xs : Nat → Int32} {i : Int32} {z : Sh} {J : MJ} {I : MI} {uc us d : Nat} {zz : Sh} {Jz : MJ} {Iz : MI} (hX : Cx E X cL_law 7 (some .boolean) RL) (hr0 : RmOk X (d + 41) 601024 7293034) (hu : uc + 10 ≤ 601024 ∧ us + 2127 ≤ 7293034) (hsc : Scr E X b L xs) (hx : oX4 z x t u) (hm : oX5 z m) (h : f_Lc_23 x t u m L xs i z J I = some (zz, Jz, Iz)) (K : GW E X Q 7 982 [(0, .ref b), (1, .ref x), (2, .ref m), (3, .ref o), (4, .int i)] [] zz Jz Iz (uc + 10) (us + 2127)) : GW E X Q 7 878 [(0, .ref b), (1, .ref x), (2, .ref m), (3, .ref o), (4, .int i)] [] z J I uc us := by
  unfold f_Lc_23 at h
  have KZ : ∀ q : Sh × MJ × MI, q = (zz, Jz, Iz) → GW E X Q 7 982 [(0, .ref b), (1, .ref x), (2, .ref m), (3, .ref o), (4, .int i)] [] q.1 q.2.1 q.2.2 (uc + 10) (us + 2127) := by intro q hq; subst hq; exact K
  refine g_aload_n hX (pc := 878) (i := 1) dL_law_878 rfl 1 rfl ?_
  obtain ⟨r1, e_r1, h⟩ := bnd h
  obtain ⟨g2, e_g2, h⟩ := bnd h
  refine g_callVi hX (pc := 879) (d := d + 40) hr0 [] (c := 4) (ct_X4_wouldBe (d := d + 34) hx e_r1) hx.1.1 hx.1.2 (by decide) rfl co_X4_wouldBe ml_L_120 im_X4_wouldBe sl_X4_wouldBe ini_X4 nm_X4_wouldBe (by decide) (by omega) (gd_some e_g2) (Nat.le_of_ble_eq_true rfl) rfl dL_law_879 ?_
  obtain ⟨g3, e_g3, h⟩ := bnd h
  refine g_aload_n hX (pc := 882) (i := 2) dL_law_882 rfl 2 rfl ?_
  obtain ⟨r4, e_r4, h⟩ := bnd h
  refine g_callVi hX (pc := 883) (d := d + 40) hr0 [] (c := 5) (ct_X5_wouldBe (d := d + 36) (gd_some e_g3) e_r4) (gd_some e_g3).1.1 (gd_some e_g3).1.2 (by decide) rfl co_X5_wouldBe ml_L_123 im_X5_wouldBe sl_X5_wouldBe ini_X5 nm_X5_wouldBe (by decide) (by omega) (Nat.le_refl _) (Nat.le_of_ble_eq_true rfl) rfl dL_law_883 ?_
  refine g_icmp_eq hX (pc := 886) dL_law_886 (tgt := 982) (by decide) (fun c5 => ?_) (fun c5 => ?_)
  · replace h := ifP c5 h
    refine g_widen (kc := uc + 10) (ks := us + 2127) (by omega) (by omega) ?_
    exact KZ ((r1.2.1, J, r4.2)) (Option.some.inj h)
  · replace h := ifN c5 h
    refine g_iconst hX (pc := 889) (v := 0) dL_law_889 (by decide) ?_
    cases h
noncomputable def f_Lc_24 (x t u m L : Nat) (xs : Nat → Int32) (i : Int32) (z : Sh) (J : MJ) (I : MI) : Option (Sh × MJ × MI) :=
  (f_X4_undo x t u z I).bind fun r1 =>
  (f_X5_undo m J r1.2).bind fun r2 =>
  if r1.1 = r2.1 then
    some ((z, J, r2.2))
  else
    none
set_option maxRecDepth 100000 in
set_option maxHeartbeats 4000000 in
theorem lc_24 {E : Ev} {X : Xt} {Q : State → Prop} {b x t u m o L : Nat} {xs : Nat → Int32} {i : Int32} {z : Sh} {J : MJ} {I : MI} {uc us d : Nat} {zz : Sh} {Jz : MJ} {Iz : MI} (hX : Cx E X cL_law 7 (some .boolean) RL) (hr0 : RmOk X (d + 41) 601024 7293034) (hu : uc + 10 ≤ 601024 ∧ us + 2127 ≤ 7293034) (hsc : Scr E X b L xs) (hx : oX4 z x t u) (hm : oX5 z m) (h : f_Lc_24 x t u m L xs i z J I = some (zz, Jz, Iz)) (K : GW E X Q 7 982 [(0, .ref b), (1, .ref x), (2, .ref m), (3, .ref o), (4, .int i)] [] zz Jz Iz (uc + 10) (us + 2127)) : GW E X Q 7 891 [(0, .ref b), (1, .ref x), (2, .ref m), (3, .ref o), (4, .int i)] [] z J I uc us := by
  unfold f_Lc_24 at h
  have KZ : ∀ q : Sh × MJ × MI, q = (zz, Jz, Iz) → GW E X Q 7 982 [(0, .ref b), (1, .ref x), (2, .ref m), (3, .ref o), (4, .int i)] [] q.1 q.2.1 q.2.2 (uc + 10) (us + 2127) := by intro q hq; subst hq; exact K
  refine g_aload_n hX (pc := 891) (i := 1) dL_law_891 rfl 1 rfl ?_
  obtain ⟨r1, e_r1, h⟩ := bnd h
  refine g_callVi hX (pc := 892) (d := d + 40) hr0 [] (c := 4) (ct_X4_undo (d := d + 38) hx e_r1) hx.1.1 hx.1.2 (by decide) rfl co_X4_undo ml_L_124 im_X4_undo sl_X4_undo ini_X4 nm_X4_undo (by decide) (by omega) (Nat.le_refl _) (Nat.le_of_ble_eq_true rfl) rfl dL_law_892 ?_
  refine g_aload_n hX (pc := 895) (i := 2) dL_law_895 rfl 2 rfl ?_
  obtain ⟨r2, e_r2, h⟩ := bnd h
  refine g_callVi hX (pc := 896) (d := d + 40) hr0 [] (c := 5) (ct_X5_undo (d := d + 40) hm e_r2) hm.1.1 hm.1.2 (by decide) rfl co_X5_undo ml_L_127 im_X5_undo sl_X5_undo ini_X5 nm_X5_undo (by decide) (by omega) (Nat.le_refl _) (Nat.le_of_ble_eq_true rfl) rfl dL_law_896 ?_
  refine g_icmp_eq hX (pc := 899) dL_law_899 (tgt := 982) (by decide) (fun c3 => ?_) (fun c3 => ?_)
  · replace h := ifP c3 h
    refine g_widen (kc := uc + 10) (ks := us + 2127) (by omega) (by omega) ?_
    exact KZ ((z, J, r2.2)) (Option.some.inj h)
  · replace h := ifN c3 h
    refine g_iconst hX (pc := 902) (v := 0) dL_law_902 (by decide) ?_
    cases h
noncomputable def f_Lc_25 (x t u m L : Nat) (xs : Nat → Int32) (i : Int32) (z : Sh) (J : MJ) (I : MI) : Option (Sh × MJ × MI) :=
  (rd L xs (i + 1)).bind fun v1 =>
  (rd L xs (i + 2)).bind fun v2 =>
  (if v2 = 0 then
    some 0
  else
    some 1).bind fun (p5 : Int32) =>
  (f_X4_keep x t u v1 p5 z I).bind fun r6 =>
  (gd (zs z ≤ zs r6.2.1)).bind fun g7 =>
  (gd (oX5 r6.2.1 m)).bind fun g8 =>
  (rd L xs (i + 1)).bind fun v9 =>
  (rd L xs (i + 2)).bind fun v10 =>
  (if v10 = 0 then
    some 0
  else
    some 1).bind fun (p13 : Int32) =>
  (f_X5_keep m v9 p13 J r6.2.2).bind fun r14 =>
  if r6.1 = r14.1 then
    some ((r6.2.1, J, r14.2))
  else
    none
set_option maxRecDepth 100000 in
set_option maxHeartbeats 4000000 in
theorem lc_25 {E : Ev} {X : Xt} {Q : State → Prop} {b x t u m o L : Nat} {xs : Nat → Int32} {i : Int32} {z : Sh} {J : MJ} {I : MI} {uc us d : Nat} {zz : Sh} {Jz : MJ} {Iz : MI} (hX : Cx E X cL_law 7 (some .boolean) RL) (hr0 : RmOk X (d + 41) 601024 7293034) (hu : uc + 10 ≤ 601024 ∧ us + 2127 ≤ 7293034) (hsc : Scr E X b L xs) (hx : oX4 z x t u) (hm : oX5 z m) (h : f_Lc_25 x t u m L xs i z J I = some (zz, Jz, Iz)) (K : GW E X Q 7 982 [(0, .ref b), (1, .ref x), (2, .ref m), (3, .ref o), (4, .int i)] [] zz Jz Iz (uc + 10) (us + 2127)) : GW E X Q 7 904 [(0, .ref b), (1, .ref x), (2, .ref m), (3, .ref o), (4, .int i)] [] z J I uc us := by
  unfold f_Lc_25 at h
  have KZ : ∀ q : Sh × MJ × MI, q = (zz, Jz, Iz) → GW E X Q 7 982 [(0, .ref b), (1, .ref x), (2, .ref m), (3, .ref o), (4, .int i)] [] q.1 q.2.1 q.2.2 (uc + 10) (us + 2127) := by intro q hq; subst hq; exact K
  refine g_aload_n hX (pc := 904) (i := 1) dL_law_904 rfl 1 rfl ?_
  refine g_aload_n hX (pc := 905) (i := 0) dL_law_905 rfl 0 rfl ?_
  refine g_iload hX (pc := 906) dL_law_906 4 rfl ?_
  refine g_iconst hX (pc := 908) (v := 1) dL_law_908 (by decide) ?_
  refine g_iadd hX (pc := 909) dL_law_909 ?_
  obtain ⟨v1, e_v1, h⟩ := bnd h
  refine g_sldE hX (pc := 910) hsc e_v1 dL_law_910 ?_
  refine g_aload_n hX (pc := 911) (i := 0) dL_law_911 rfl 0 rfl ?_
  refine g_iload hX (pc := 912) dL_law_912 4 rfl ?_
  refine g_iconst hX (pc := 914) (v := 2) dL_law_914 (by decide) ?_
  refine g_iadd hX (pc := 915) dL_law_915 ?_
  obtain ⟨v2, e_v2, h⟩ := bnd h
  refine g_sldE hX (pc := 916) hsc e_v2 dL_law_916 ?_
  obtain ⟨p5, hpj4, h⟩ := bnd h
  have Kj4 : ∀ qj4 : Int32, qj4 = p5 → GW E X Q 7 925 [(0, .ref b), (1, .ref x), (2, .ref m), (3, .ref o), (4, .int i)] [.int qj4, .int v1, .ref x] z J I uc us := by
    intro qj4 hqj4
    subst hqj4
    obtain ⟨r6, e_r6, h⟩ := bnd h
    obtain ⟨g7, e_g7, h⟩ := bnd h
    refine g_callVi hX (pc := 925) (d := d + 40) hr0 [.int v1, .int qj4] (c := 4) (ct_X4_keep (d := d + 37) hx e_r6) hx.1.1 hx.1.2 (by decide) rfl co_X4_keep ml_L_128 im_X4_keep sl_X4_keep ini_X4 nm_X4_keep (by decide) (by omega) (gd_some e_g7) (Nat.le_of_ble_eq_true rfl) rfl dL_law_925 ?_
    obtain ⟨g8, e_g8, h⟩ := bnd h
    refine g_aload_n hX (pc := 928) (i := 2) dL_law_928 rfl 2 rfl ?_
    refine g_aload_n hX (pc := 929) (i := 0) dL_law_929 rfl 0 rfl ?_
    refine g_iload hX (pc := 930) dL_law_930 4 rfl ?_
    refine g_iconst hX (pc := 932) (v := 1) dL_law_932 (by decide) ?_
    refine g_iadd hX (pc := 933) dL_law_933 ?_
    obtain ⟨v9, e_v9, h⟩ := bnd h
    refine g_sldE hX (pc := 934) hsc e_v9 dL_law_934 ?_
    refine g_aload_n hX (pc := 935) (i := 0) dL_law_935 rfl 0 rfl ?_
    refine g_iload hX (pc := 936) dL_law_936 4 rfl ?_
    refine g_iconst hX (pc := 938) (v := 2) dL_law_938 (by decide) ?_
    refine g_iadd hX (pc := 939) dL_law_939 ?_
    obtain ⟨v10, e_v10, h⟩ := bnd h
    refine g_sldE hX (pc := 940) hsc e_v10 dL_law_940 ?_
    obtain ⟨p13, hpj12, h⟩ := bnd h
    have Kj12 : ∀ qj12 : Int32, qj12 = p13 → GW E X Q 7 949 [(0, .ref b), (1, .ref x), (2, .ref m), (3, .ref o), (4, .int i)] [.int qj12, .int v9, .ref m, .int r6.1] r6.2.1 J r6.2.2 (uc + 10) (us + 2127) := by
      intro qj12 hqj12
      subst hqj12
      obtain ⟨r14, e_r14, h⟩ := bnd h
      refine g_callVi hX (pc := 949) (d := d + 40) hr0 [.int v9, .int qj12] (c := 5) (ct_X5_keep (d := d + 39) (gd_some e_g8) e_r14) (gd_some e_g8).1.1 (gd_some e_g8).1.2 (by decide) rfl co_X5_keep ml_L_132 im_X5_keep sl_X5_keep ini_X5 nm_X5_keep (by decide) (by omega) (Nat.le_refl _) (Nat.le_of_ble_eq_true rfl) rfl dL_law_949 ?_
      refine g_icmp_eq hX (pc := 952) dL_law_952 (tgt := 982) (by decide) (fun c15 => ?_) (fun c15 => ?_)
      · replace h := ifP c15 h
        refine g_widen (kc := uc + 10) (ks := us + 2127) (by omega) (by omega) ?_
        exact KZ ((r6.2.1, J, r14.2)) (Option.some.inj h)
      · replace h := ifN c15 h
        refine g_iconst hX (pc := 955) (v := 0) dL_law_955 (by decide) ?_
        cases h
    replace h := hpj12
    clear hpj12
    refine g_if_eq hX (pc := 941) dL_law_941 (tgt := 948) (by decide) (fun c11 => ?_) (fun c11 => ?_)
    · replace h := ifP c11 h
      refine g_iconst hX (pc := 948) (v := 0) dL_law_948 (by decide) ?_
      exact Kj12 0 (Option.some.inj h)
    · replace h := ifN c11 h
      refine g_iconst hX (pc := 944) (v := 1) dL_law_944 (by decide) ?_
      refine g_goto hX (pc := 945) (tgt := 949) dL_law_945 (by decide) ?_
      exact Kj12 1 (Option.some.inj h)
  replace h := hpj4
  clear hpj4
  refine g_if_eq hX (pc := 917) dL_law_917 (tgt := 924) (by decide) (fun c3 => ?_) (fun c3 => ?_)
  · replace h := ifP c3 h
    refine g_iconst hX (pc := 924) (v := 0) dL_law_924 (by decide) ?_
    exact Kj4 0 (Option.some.inj h)
  · replace h := ifN c3 h
    refine g_iconst hX (pc := 920) (v := 1) dL_law_920 (by decide) ?_
    refine g_goto hX (pc := 921) (tgt := 925) dL_law_921 (by decide) ?_
    exact Kj4 1 (Option.some.inj h)
noncomputable def f_Lc_26 (x t u m L : Nat) (xs : Nat → Int32) (i : Int32) (z : Sh) (J : MJ) (I : MI) : Option (Sh × MJ × MI) :=
  (rd L xs (i + 1)).bind fun v1 =>
  (f_X4_count x t u v1 I).bind fun r2 =>
  (rd L xs (i + 1)).bind fun v3 =>
  (f_X5_count m v3 J I).bind fun r4 =>
  if r2 = r4.1 then
    some ((z, J, r4.2))
  else
    none
set_option maxRecDepth 100000 in
set_option maxHeartbeats 4000000 in
theorem lc_26 {E : Ev} {X : Xt} {Q : State → Prop} {b x t u m o L : Nat} {xs : Nat → Int32} {i : Int32} {z : Sh} {J : MJ} {I : MI} {uc us d : Nat} {zz : Sh} {Jz : MJ} {Iz : MI} (hX : Cx E X cL_law 7 (some .boolean) RL) (hr0 : RmOk X (d + 41) 601024 7293034) (hu : uc + 10 ≤ 601024 ∧ us + 2127 ≤ 7293034) (hsc : Scr E X b L xs) (hx : oX4 z x t u) (hm : oX5 z m) (h : f_Lc_26 x t u m L xs i z J I = some (zz, Jz, Iz)) (K : GW E X Q 7 982 [(0, .ref b), (1, .ref x), (2, .ref m), (3, .ref o), (4, .int i)] [] zz Jz Iz (uc + 10) (us + 2127)) : GW E X Q 7 957 [(0, .ref b), (1, .ref x), (2, .ref m), (3, .ref o), (4, .int i)] [] z J I uc us := by
  unfold f_Lc_26 at h
  have KZ : ∀ q : Sh × MJ × MI, q = (zz, Jz, Iz) → GW E X Q 7 982 [(0, .ref b), (1, .ref x), (2, .ref m), (3, .ref o), (4, .int i)] [] q.1 q.2.1 q.2.2 (uc + 10) (us + 2127) := by intro q hq; subst hq; exact K
  refine g_aload_n hX (pc := 957) (i := 1) dL_law_957 rfl 1 rfl ?_
  refine g_aload_n hX (pc := 958) (i := 0) dL_law_958 rfl 0 rfl ?_
  refine g_iload hX (pc := 959) dL_law_959 4 rfl ?_
  refine g_iconst hX (pc := 961) (v := 1) dL_law_961 (by decide) ?_
  refine g_iadd hX (pc := 962) dL_law_962 ?_
  obtain ⟨v1, e_v1, h⟩ := bnd h
  refine g_sldE hX (pc := 963) hsc e_v1 dL_law_963 ?_
  obtain ⟨r2, e_r2, h⟩ := bnd h
  refine g_callVi hX (pc := 964) (d := d + 40) hr0 [.int v1] (c := 4) (ct_X4_count (d := d + 37) hx e_r2) hx.1.1 hx.1.2 (by decide) rfl co_X4_count ml_L_133 im_X4_count sl_X4_count ini_X4 nm_X4_count (by decide) (by omega) (Nat.le_refl _) (Nat.le_of_ble_eq_true rfl) rfl dL_law_964 ?_
  refine g_aload_n hX (pc := 967) (i := 2) dL_law_967 rfl 2 rfl ?_
  refine g_aload_n hX (pc := 968) (i := 0) dL_law_968 rfl 0 rfl ?_
  refine g_iload hX (pc := 969) dL_law_969 4 rfl ?_
  refine g_iconst hX (pc := 971) (v := 1) dL_law_971 (by decide) ?_
  refine g_iadd hX (pc := 972) dL_law_972 ?_
  obtain ⟨v3, e_v3, h⟩ := bnd h
  refine g_sldE hX (pc := 973) hsc e_v3 dL_law_973 ?_
  obtain ⟨r4, e_r4, h⟩ := bnd h
  refine g_callVi hX (pc := 974) (d := d + 40) hr0 [.int v3] (c := 5) (ct_X5_count (d := d + 38) hm e_r4) hm.1.1 hm.1.2 (by decide) rfl co_X5_count ml_L_136 im_X5_count sl_X5_count ini_X5 nm_X5_count (by decide) (by omega) (Nat.le_refl _) (Nat.le_of_ble_eq_true rfl) rfl dL_law_974 ?_
  refine g_icmp_eq hX (pc := 977) dL_law_977 (tgt := 982) (by decide) (fun c5 => ?_) (fun c5 => ?_)
  · replace h := ifP c5 h
    refine g_widen (kc := uc + 10) (ks := us + 2127) (by omega) (by omega) ?_
    exact KZ ((z, J, r4.2)) (Option.some.inj h)
  · replace h := ifN c5 h
    refine g_iconst hX (pc := 980) (v := 0) dL_law_980 (by decide) ?_
    cases h
