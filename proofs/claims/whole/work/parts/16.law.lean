/-! THE LAW: its loop over the script, both objects in one memory (by program: wip/gen/law.py) -/
section LW
variable {α : Type} {Q : α × Mem → State → Prop} {g : GP} {l : Launch} {x : CT} {own : String} {cc : ByteArray} {nL c s pc : Nat} {ret : Option FieldType} {rm : Room} {lv : List (Nat × Value)} {stk : List Value} {M : Mem} {f : Option (α × Mem)} {b L : Nat} {xs : Nat → Int32}
theorem r_slen (ok : Ok g l x own cc nL ret rm) (hX : va_X b L xs (cxS x) (cxS x).heap) (hbl : b < (cxS x).heap.size) (hbA : ¬ gU g b) (hd : decode cc pc = .ok (.arraylength, 1)) (kk : Sw g l x Q nL c s (pc + 1) lv (.int (Int32.ofNat L) :: stk) M f) : Sw g l x Q nL c s pc lv (.ref b :: stk) M f :=
  fun res hr H locs ls hW hS hL => va_slen ok.1 ok.2.1 hX hbl hbA hS hd (kk res hr H locs ls hW hS hL)
theorem r_sld (ok : Ok g l x own cc nL ret rm) (hX : va_X b L xs (cxS x) (cxS x).heap) (hbl : b < (cxS x).heap.size) (hbA : ¬ gU g b) {i : Int32} (n : Nat) (hi : i.toNatClampNeg = n ∧ ¬ i < 0) (hn : n < L) (hd : decode cc pc = .ok (.iaload, 1)) (kk : Sw g l x Q nL c s (pc + 1) lv (.int (xs n) :: stk) M f) : Sw g l x Q nL c s pc lv (.int i :: .ref b :: stk) M f := by
  intro res hr H locs ls hW hS hL
  obtain ⟨rfl, h0⟩ := hi
  exact va_sld ok.1 ok.2.1 hX hbl hbA hS (fun q => by rcases q with q | q; exact h0 q; omega) hd (kk res hr H locs ls hW hS hL)
theorem r_widen (c2 s2 : Nat) (hc : c ≤ c2) (hs : s ≤ s2) (kk : Sw g l x Q nL c2 s2 pc lv stk M f) : Sw g l x Q nL c s pc lv stk M f :=
  fun res hr H locs ls hW hS hL => W.widen hc hs (kk res hr H locs ls hW hS hL)
theorem r_vac (h : ∀ res, f = some res → ∀ t, Q res t) : Sw g l x Q nL c s pc lv stk M f :=
  fun res hr _ _ _ _ _ _ T _ _ => ⟨_, Steps.refl _, h res hr _⟩
end LW
theorem ofNat_toInt {k : Nat} (h : k < 100000) : (Int32.ofNat k).toInt = (k : Int) := Int32.toInt_ofNat_of_lt (by omega)
theorem ix_of {i : Int32} {n : Nat} (h : i.toInt = (n : Int)) : i.toNatClampNeg = n ∧ ¬ i < 0 := ⟨by show i.toInt.toNat = n; omega, fun q => by have := Int32.lt_iff_toInt_lt.mp q; simp at this; omega⟩
theorem ix_0 {k : Nat} (h : k < 100000) : (Int32.ofNat k).toNatClampNeg = k ∧ ¬ Int32.ofNat k < 0 := ix_of (ofNat_toInt h)
theorem ix_add {k : Nat} (j : Nat) {v : Int32} (hv : v = Int32.ofNat j) (hk : k < 50000) (hj : j < 50000) : (Int32.ofNat k + v).toNatClampNeg = k + j ∧ ¬ Int32.ofNat k + v < 0 := by
  subst hv
  rw [← Int32.ofNat_add]
  exact ix_0 (by omega)
theorem if_iff {α : Type} {a b : Prop} [Decidable a] [Decidable b] {x y : α} (h : a ↔ b) : (if a then x else y) = (if b then x else y) := by
  by_cases ha : a
  · rw [if_pos ha, if_pos (h.mp ha)]
  · rw [if_neg ha, if_neg (fun q => ha (h.mpr q))]
theorem law_small : ∀ L, L < 7 → ∀ k, k < L + 1 → ((L < k + 7) ↔ (Int32.ofNat L - 7 < Int32.ofNat k)) := by decide +kernel
theorem law_cond {L k : Nat} (hL : L ≤ 3584) (hk : k ≤ L) : (L < k + 7) ↔ (Int32.ofNat L - 7 < Int32.ofNat k) := by
  by_cases h : 7 ≤ L
  · rw [show Int32.ofNat L - 7 = nI (L - 7) from pk_sub h]
    exact ⟨fun q => (nI_ltI (by omega) (by omega)).mpr (by omega), fun q => by have := (nI_ltI (a := L - 7) (b := k) (by omega) (by omega)).mp q; omega⟩
  · exact law_small L (by omega) k (by omega)
def lwQ (x : CT) : Int32 × Mem → State → Prop := fun res t => res.1 = 1 → lw_Z (cxB x) (cxA x) (cxS x) t
abbrev lvL (g : GP) (b k : Nat) : List (Nat × Value) := [(3, .int (Int32.ofNat k)), (2, .ref (gA g 22 0)), (1, .ref (gA g 0 0)), (0, .ref b)]
def lwC0 (xs : Nat → Int32) (k : Nat) (J : Mem → Option (Int32 × Mem)) (M : Mem) : Option (Int32 × Mem) :=
  ob (fX10_count (xs (k + 1)) M) fun r1 M1 => ob (fX11_count (xs (k + 1)) M1) fun r2 M2 => if r1 = r2 then J M2 else some (0, M2)
set_option maxRecDepth 20000 in
theorem sC0 {g : GP} {l : Launch} {x : CT} {b L k c s : Nat} {xs : Nat → Int32} (ok : Ok g l x RL cL_law 4 (some .boolean) room_1) (hX : va_X b L xs (cxS x) (cxS x).heap) (hbl : b < (cxS x).heap.size) (hbA : ¬ gU g b) (hL : L ≤ 3584) (hk : k + 7 ≤ L) (hc : c + 1 ≤ 600000) (hs : s + 160 ≤ 7302250) (J : Mem → Option (Int32 × Mem)) (hJ : ∀ M, Sw g l x (lwQ x) 4 (c + 1) (s + 160) 1613 (lvL g b k) [] M (J M)) (M : Mem) : Sw g l x (lwQ x) 4 c s 196 (lvL g b k) [] M (lwC0 xs k J M) := by
  unfold lwC0
  refine r_widen (c + 1) (s + 160) (by omega) (by omega) ?_
  refine r_aload_n (pc := 196) ok 2 dL_law_196 rfl ?_
  refine r_aload_n (pc := 197) ok 3 dL_law_197 rfl ?_
  refine r_iload_n (pc := 198) ok 0 dL_law_198 rfl ?_
  refine r_iconst (pc := 199) ok 1 dL_law_199 (by decide) ?_
  refine r_iadd (pc := 200) ok dL_law_200 ?_
  refine r_sld (pc := 201) ok hX hbl hbA (k + 1) (ix_add 1 rfl (by omega) (by omega)) (by omega) dL_law_201 ?_
  refine r_callV (pc := 202) (K := 0) (i := 0) ok [.int (xs (k + 1))] [] (rmL 3) (fun rZ MZ hZ => con_X10_count g l _ _ rZ MZ hZ) cv_L_13 ok_0 ⟨by decide, by decide, by show c + 1 ≤ 600000; omega, by show s + 160 ≤ 7302250; omega⟩ dL_law_202 rfl rfl (Nat.le_of_ble_eq_true rfl) (fun r1 M1 => ?_)
  refine r_aload_n (pc := 205) ok 1 dL_law_205 rfl ?_
  refine r_aload_n (pc := 206) ok 3 dL_law_206 rfl ?_
  refine r_iload_n (pc := 207) ok 0 dL_law_207 rfl ?_
  refine r_iconst (pc := 208) ok 1 dL_law_208 (by decide) ?_
  refine r_iadd (pc := 209) ok dL_law_209 ?_
  refine r_sld (pc := 210) ok hX hbl hbA (k + 1) (ix_add 1 rfl (by omega) (by omega)) (by omega) dL_law_210 ?_
  refine r_callV (pc := 211) (K := 22) (i := 0) ok [.int (xs (k + 1))] [.int r1] (rmL 3) (fun rZ MZ hZ => con_X11_count g l _ _ rZ MZ hZ) cv_L_17 ok_22 ⟨by decide, by decide, by show c + 1 ≤ 600000; omega, by show s + 160 ≤ 7302250; omega⟩ dL_law_211 rfl rfl (Nat.le_of_ble_eq_true rfl) (fun r2 M2 => ?_)
  exact r_icmp_eq (pc := 214) ok 1613 dL_law_214 (by decide) (fun _ => hJ M2) (fun _ => r_vac (fun res hr t h => by cases hr; exact absurd (show (0 : Int32) = 1 from h) (by decide)))
def lwC1 (xs : Nat → Int32) (k : Nat) (J : Mem → Option (Int32 × Mem)) (M : Mem) : Option (Int32 × Mem) :=
  ob (fX10_lay (xs (k + 1)) (xs (k + 2)) M) fun r1 M1 => ob (fX11_lay (xs (k + 1)) (xs (k + 2)) M1) fun r2 M2 => if r1 = r2 then J M2 else some (0, M2)
set_option maxRecDepth 20000 in
theorem sC1 {g : GP} {l : Launch} {x : CT} {b L k c s : Nat} {xs : Nat → Int32} (ok : Ok g l x RL cL_law 4 (some .boolean) room_1) (hX : va_X b L xs (cxS x) (cxS x).heap) (hbl : b < (cxS x).heap.size) (hbA : ¬ gU g b) (hL : L ≤ 3584) (hk : k + 7 ≤ L) (hc : c + 1 ≤ 600000) (hs : s + 160 ≤ 7302250) (J : Mem → Option (Int32 × Mem)) (hJ : ∀ M, Sw g l x (lwQ x) 4 (c + 1) (s + 160) 1613 (lvL g b k) [] M (J M)) (M : Mem) : Sw g l x (lwQ x) 4 c s 219 (lvL g b k) [] M (lwC1 xs k J M) := by
  unfold lwC1
  refine r_widen (c + 1) (s + 160) (by omega) (by omega) ?_
  refine r_aload_n (pc := 219) ok 2 dL_law_219 rfl ?_
  refine r_aload_n (pc := 220) ok 3 dL_law_220 rfl ?_
  refine r_iload_n (pc := 221) ok 0 dL_law_221 rfl ?_
  refine r_iconst (pc := 222) ok 1 dL_law_222 (by decide) ?_
  refine r_iadd (pc := 223) ok dL_law_223 ?_
  refine r_sld (pc := 224) ok hX hbl hbA (k + 1) (ix_add 1 rfl (by omega) (by omega)) (by omega) dL_law_224 ?_
  refine r_aload_n (pc := 225) ok 3 dL_law_225 rfl ?_
  refine r_iload_n (pc := 226) ok 0 dL_law_226 rfl ?_
  refine r_iconst (pc := 227) ok 2 dL_law_227 (by decide) ?_
  refine r_iadd (pc := 228) ok dL_law_228 ?_
  refine r_sld (pc := 229) ok hX hbl hbA (k + 2) (ix_add 2 rfl (by omega) (by omega)) (by omega) dL_law_229 ?_
  refine r_callV (pc := 230) (K := 0) (i := 0) ok [.int (xs (k + 1)), .int (xs (k + 2))] [] (rmL 4) (fun rZ MZ hZ => con_X10_lay g l _ _ _ rZ MZ hZ) cv_L_18 ok_0 ⟨by decide, by decide, by show c + 1 ≤ 600000; omega, by show s + 160 ≤ 7302250; omega⟩ dL_law_230 rfl rfl (Nat.le_of_ble_eq_true rfl) (fun r1 M1 => ?_)
  refine r_aload_n (pc := 233) ok 1 dL_law_233 rfl ?_
  refine r_aload_n (pc := 234) ok 3 dL_law_234 rfl ?_
  refine r_iload_n (pc := 235) ok 0 dL_law_235 rfl ?_
  refine r_iconst (pc := 236) ok 1 dL_law_236 (by decide) ?_
  refine r_iadd (pc := 237) ok dL_law_237 ?_
  refine r_sld (pc := 238) ok hX hbl hbA (k + 1) (ix_add 1 rfl (by omega) (by omega)) (by omega) dL_law_238 ?_
  refine r_aload_n (pc := 239) ok 3 dL_law_239 rfl ?_
  refine r_iload_n (pc := 240) ok 0 dL_law_240 rfl ?_
  refine r_iconst (pc := 241) ok 2 dL_law_241 (by decide) ?_
  refine r_iadd (pc := 242) ok dL_law_242 ?_
  refine r_sld (pc := 243) ok hX hbl hbA (k + 2) (ix_add 2 rfl (by omega) (by omega)) (by omega) dL_law_243 ?_
  refine r_callV (pc := 244) (K := 22) (i := 0) ok [.int (xs (k + 1)), .int (xs (k + 2))] [.int r1] (rmL 4) (fun rZ MZ hZ => con_X11_lay g l _ _ _ rZ MZ hZ) cv_L_22 ok_22 ⟨by decide, by decide, by show c + 1 ≤ 600000; omega, by show s + 160 ≤ 7302250; omega⟩ dL_law_244 rfl rfl (Nat.le_of_ble_eq_true rfl) (fun r2 M2 => ?_)
  exact r_icmp_eq (pc := 247) ok 1613 dL_law_247 (by decide) (fun _ => hJ M2) (fun _ => r_vac (fun res hr t h => by cases hr; exact absurd (show (0 : Int32) = 1 from h) (by decide)))
def lwC2 (xs : Nat → Int32) (k : Nat) (J : Mem → Option (Int32 × Mem)) (M : Mem) : Option (Int32 × Mem) :=
  ob (fX10_under (xs (k + 1)) M) fun r1 M1 => ob (fX11_under (xs (k + 1)) M1) fun r2 M2 => if r1 = r2 then J M2 else some (0, M2)
set_option maxRecDepth 20000 in
theorem sC2 {g : GP} {l : Launch} {x : CT} {b L k c s : Nat} {xs : Nat → Int32} (ok : Ok g l x RL cL_law 4 (some .boolean) room_1) (hX : va_X b L xs (cxS x) (cxS x).heap) (hbl : b < (cxS x).heap.size) (hbA : ¬ gU g b) (hL : L ≤ 3584) (hk : k + 7 ≤ L) (hc : c + 1 ≤ 600000) (hs : s + 160 ≤ 7302250) (J : Mem → Option (Int32 × Mem)) (hJ : ∀ M, Sw g l x (lwQ x) 4 (c + 1) (s + 160) 1613 (lvL g b k) [] M (J M)) (M : Mem) : Sw g l x (lwQ x) 4 c s 252 (lvL g b k) [] M (lwC2 xs k J M) := by
  unfold lwC2
  refine r_widen (c + 1) (s + 160) (by omega) (by omega) ?_
  refine r_aload_n (pc := 252) ok 2 dL_law_252 rfl ?_
  refine r_aload_n (pc := 253) ok 3 dL_law_253 rfl ?_
  refine r_iload_n (pc := 254) ok 0 dL_law_254 rfl ?_
  refine r_iconst (pc := 255) ok 1 dL_law_255 (by decide) ?_
  refine r_iadd (pc := 256) ok dL_law_256 ?_
  refine r_sld (pc := 257) ok hX hbl hbA (k + 1) (ix_add 1 rfl (by omega) (by omega)) (by omega) dL_law_257 ?_
  refine r_callV (pc := 258) (K := 0) (i := 0) ok [.int (xs (k + 1))] [] (rmL 4) (fun rZ MZ hZ => con_X10_under g l _ _ rZ MZ hZ) cv_L_23 ok_0 ⟨by decide, by decide, by show c + 1 ≤ 600000; omega, by show s + 160 ≤ 7302250; omega⟩ dL_law_258 rfl rfl (Nat.le_of_ble_eq_true rfl) (fun r1 M1 => ?_)
  refine r_aload_n (pc := 261) ok 1 dL_law_261 rfl ?_
  refine r_aload_n (pc := 262) ok 3 dL_law_262 rfl ?_
  refine r_iload_n (pc := 263) ok 0 dL_law_263 rfl ?_
  refine r_iconst (pc := 264) ok 1 dL_law_264 (by decide) ?_
  refine r_iadd (pc := 265) ok dL_law_265 ?_
  refine r_sld (pc := 266) ok hX hbl hbA (k + 1) (ix_add 1 rfl (by omega) (by omega)) (by omega) dL_law_266 ?_
  refine r_callV (pc := 267) (K := 22) (i := 0) ok [.int (xs (k + 1))] [.int r1] (rmL 4) (fun rZ MZ hZ => con_X11_under g l _ _ rZ MZ hZ) cv_L_26 ok_22 ⟨by decide, by decide, by show c + 1 ≤ 600000; omega, by show s + 160 ≤ 7302250; omega⟩ dL_law_267 rfl rfl (Nat.le_of_ble_eq_true rfl) (fun r2 M2 => ?_)
  exact r_icmp_eq (pc := 270) ok 1613 dL_law_270 (by decide) (fun _ => hJ M2) (fun _ => r_vac (fun res hr t h => by cases hr; exact absurd (show (0 : Int32) = 1 from h) (by decide)))
def lwC3 (xs : Nat → Int32) (k : Nat) (J : Mem → Option (Int32 × Mem)) (M : Mem) : Option (Int32 × Mem) :=
  ob (fX10_feed (xs (k + 1)) (xs (k + 2)) (xs (k + 3)) (xs (k + 4)) (xs (k + 5)) (xs (k + 6)) M) fun r1 M1 => ob (fX11_feed (xs (k + 1)) (xs (k + 2)) (xs (k + 3)) (xs (k + 4)) (xs (k + 5)) (xs (k + 6)) M1) fun r2 M2 => if r1 = r2 then J M2 else some (0, M2)
set_option maxRecDepth 20000 in
theorem sC3 {g : GP} {l : Launch} {x : CT} {b L k c s : Nat} {xs : Nat → Int32} (ok : Ok g l x RL cL_law 4 (some .boolean) room_1) (hX : va_X b L xs (cxS x) (cxS x).heap) (hbl : b < (cxS x).heap.size) (hbA : ¬ gU g b) (hL : L ≤ 3584) (hk : k + 7 ≤ L) (hc : c + 1 ≤ 600000) (hs : s + 160 ≤ 7302250) (J : Mem → Option (Int32 × Mem)) (hJ : ∀ M, Sw g l x (lwQ x) 4 (c + 1) (s + 160) 1613 (lvL g b k) [] M (J M)) (M : Mem) : Sw g l x (lwQ x) 4 c s 275 (lvL g b k) [] M (lwC3 xs k J M) := by
  unfold lwC3
  refine r_widen (c + 1) (s + 160) (by omega) (by omega) ?_
  refine r_aload_n (pc := 275) ok 2 dL_law_275 rfl ?_
  refine r_aload_n (pc := 276) ok 3 dL_law_276 rfl ?_
  refine r_iload_n (pc := 277) ok 0 dL_law_277 rfl ?_
  refine r_iconst (pc := 278) ok 1 dL_law_278 (by decide) ?_
  refine r_iadd (pc := 279) ok dL_law_279 ?_
  refine r_sld (pc := 280) ok hX hbl hbA (k + 1) (ix_add 1 rfl (by omega) (by omega)) (by omega) dL_law_280 ?_
  refine r_aload_n (pc := 281) ok 3 dL_law_281 rfl ?_
  refine r_iload_n (pc := 282) ok 0 dL_law_282 rfl ?_
  refine r_iconst (pc := 283) ok 2 dL_law_283 (by decide) ?_
  refine r_iadd (pc := 284) ok dL_law_284 ?_
  refine r_sld (pc := 285) ok hX hbl hbA (k + 2) (ix_add 2 rfl (by omega) (by omega)) (by omega) dL_law_285 ?_
  refine r_aload_n (pc := 286) ok 3 dL_law_286 rfl ?_
  refine r_iload_n (pc := 287) ok 0 dL_law_287 rfl ?_
  refine r_iconst (pc := 288) ok 3 dL_law_288 (by decide) ?_
  refine r_iadd (pc := 289) ok dL_law_289 ?_
  refine r_sld (pc := 290) ok hX hbl hbA (k + 3) (ix_add 3 rfl (by omega) (by omega)) (by omega) dL_law_290 ?_
  refine r_aload_n (pc := 291) ok 3 dL_law_291 rfl ?_
  refine r_iload_n (pc := 292) ok 0 dL_law_292 rfl ?_
  refine r_iconst (pc := 293) ok 4 dL_law_293 (by decide) ?_
  refine r_iadd (pc := 294) ok dL_law_294 ?_
  refine r_sld (pc := 295) ok hX hbl hbA (k + 4) (ix_add 4 rfl (by omega) (by omega)) (by omega) dL_law_295 ?_
  refine r_aload_n (pc := 296) ok 3 dL_law_296 rfl ?_
  refine r_iload_n (pc := 297) ok 0 dL_law_297 rfl ?_
  refine r_iconst (pc := 298) ok 5 dL_law_298 (by decide) ?_
  refine r_iadd (pc := 299) ok dL_law_299 ?_
  refine r_sld (pc := 300) ok hX hbl hbA (k + 5) (ix_add 5 rfl (by omega) (by omega)) (by omega) dL_law_300 ?_
  refine r_aload_n (pc := 301) ok 3 dL_law_301 rfl ?_
  refine r_iload_n (pc := 302) ok 0 dL_law_302 rfl ?_
  refine r_bipush (pc := 303) ok 6 dL_law_303 (by decide) ?_
  refine r_iadd (pc := 305) ok dL_law_305 ?_
  refine r_sld (pc := 306) ok hX hbl hbA (k + 6) (ix_add 6 rfl (by omega) (by omega)) (by omega) dL_law_306 ?_
  refine r_callV (pc := 307) (K := 0) (i := 0) ok [.int (xs (k + 1)), .int (xs (k + 2)), .int (xs (k + 3)), .int (xs (k + 4)), .int (xs (k + 5)), .int (xs (k + 6))] [] (rmL 4) (fun rZ MZ hZ => con_X10_feed g l _ _ _ _ _ _ _ rZ MZ hZ) cv_L_27 ok_0 ⟨by decide, by decide, by show c + 1 ≤ 600000; omega, by show s + 160 ≤ 7302250; omega⟩ dL_law_307 rfl rfl (Nat.le_of_ble_eq_true rfl) (fun r1 M1 => ?_)
  refine r_aload_n (pc := 310) ok 1 dL_law_310 rfl ?_
  refine r_aload_n (pc := 311) ok 3 dL_law_311 rfl ?_
  refine r_iload_n (pc := 312) ok 0 dL_law_312 rfl ?_
  refine r_iconst (pc := 313) ok 1 dL_law_313 (by decide) ?_
  refine r_iadd (pc := 314) ok dL_law_314 ?_
  refine r_sld (pc := 315) ok hX hbl hbA (k + 1) (ix_add 1 rfl (by omega) (by omega)) (by omega) dL_law_315 ?_
  refine r_aload_n (pc := 316) ok 3 dL_law_316 rfl ?_
  refine r_iload_n (pc := 317) ok 0 dL_law_317 rfl ?_
  refine r_iconst (pc := 318) ok 2 dL_law_318 (by decide) ?_
  refine r_iadd (pc := 319) ok dL_law_319 ?_
  refine r_sld (pc := 320) ok hX hbl hbA (k + 2) (ix_add 2 rfl (by omega) (by omega)) (by omega) dL_law_320 ?_
  refine r_aload_n (pc := 321) ok 3 dL_law_321 rfl ?_
  refine r_iload_n (pc := 322) ok 0 dL_law_322 rfl ?_
  refine r_iconst (pc := 323) ok 3 dL_law_323 (by decide) ?_
  refine r_iadd (pc := 324) ok dL_law_324 ?_
  refine r_sld (pc := 325) ok hX hbl hbA (k + 3) (ix_add 3 rfl (by omega) (by omega)) (by omega) dL_law_325 ?_
  refine r_aload_n (pc := 326) ok 3 dL_law_326 rfl ?_
  refine r_iload_n (pc := 327) ok 0 dL_law_327 rfl ?_
  refine r_iconst (pc := 328) ok 4 dL_law_328 (by decide) ?_
  refine r_iadd (pc := 329) ok dL_law_329 ?_
  refine r_sld (pc := 330) ok hX hbl hbA (k + 4) (ix_add 4 rfl (by omega) (by omega)) (by omega) dL_law_330 ?_
  refine r_aload_n (pc := 331) ok 3 dL_law_331 rfl ?_
  refine r_iload_n (pc := 332) ok 0 dL_law_332 rfl ?_
  refine r_iconst (pc := 333) ok 5 dL_law_333 (by decide) ?_
  refine r_iadd (pc := 334) ok dL_law_334 ?_
  refine r_sld (pc := 335) ok hX hbl hbA (k + 5) (ix_add 5 rfl (by omega) (by omega)) (by omega) dL_law_335 ?_
  refine r_aload_n (pc := 336) ok 3 dL_law_336 rfl ?_
  refine r_iload_n (pc := 337) ok 0 dL_law_337 rfl ?_
  refine r_bipush (pc := 338) ok 6 dL_law_338 (by decide) ?_
  refine r_iadd (pc := 340) ok dL_law_340 ?_
  refine r_sld (pc := 341) ok hX hbl hbA (k + 6) (ix_add 6 rfl (by omega) (by omega)) (by omega) dL_law_341 ?_
  refine r_callV (pc := 342) (K := 22) (i := 0) ok [.int (xs (k + 1)), .int (xs (k + 2)), .int (xs (k + 3)), .int (xs (k + 4)), .int (xs (k + 5)), .int (xs (k + 6))] [.int r1] (rmL 4) (fun rZ MZ hZ => con_X11_feed g l _ _ _ _ _ _ _ rZ MZ hZ) cv_L_31 ok_22 ⟨by decide, by decide, by show c + 1 ≤ 600000; omega, by show s + 160 ≤ 7302250; omega⟩ dL_law_342 rfl rfl (Nat.le_of_ble_eq_true rfl) (fun r2 M2 => ?_)
  exact r_icmp_eq (pc := 345) ok 1613 dL_law_345 (by decide) (fun _ => hJ M2) (fun _ => r_vac (fun res hr t h => by cases hr; exact absurd (show (0 : Int32) = 1 from h) (by decide)))
def lwC4 (xs : Nat → Int32) (k : Nat) (J : Mem → Option (Int32 × Mem)) (M : Mem) : Option (Int32 × Mem) :=
  ob (fX10_text M) fun r1 M1 => ob (fX11_text M1) fun r2 M2 => if r1 = r2 then J M2 else some (0, M2)
set_option maxRecDepth 20000 in
theorem sC4 {g : GP} {l : Launch} {x : CT} {b L k c s : Nat} {xs : Nat → Int32} (ok : Ok g l x RL cL_law 4 (some .boolean) room_1) (hX : va_X b L xs (cxS x) (cxS x).heap) (hbl : b < (cxS x).heap.size) (hbA : ¬ gU g b) (hL : L ≤ 3584) (hk : k + 7 ≤ L) (hc : c + 1 ≤ 600000) (hs : s + 160 ≤ 7302250) (J : Mem → Option (Int32 × Mem)) (hJ : ∀ M, Sw g l x (lwQ x) 4 (c + 1) (s + 160) 1613 (lvL g b k) [] M (J M)) (M : Mem) : Sw g l x (lwQ x) 4 c s 350 (lvL g b k) [] M (lwC4 xs k J M) := by
  unfold lwC4
  refine r_aload_n (pc := 350) ok 2 dL_law_350 rfl ?_
  refine r_callV (pc := 351) (K := 0) (i := 0) ok [] [] (rmT 84) (fun rZ MZ hZ => con_X10_text g l _ rZ MZ hZ) cv_L_32 ok_0 ⟨by decide, by decide, by show c + 1 ≤ 600000; omega, by show s + 160 ≤ 7302250; omega⟩ dL_law_351 rfl rfl (Nat.le_of_ble_eq_true rfl) (fun r1 M1 => ?_)
  refine r_aload_n (pc := 354) ok 1 dL_law_354 rfl ?_
  refine r_callV (pc := 355) (K := 22) (i := 0) ok [] [.int r1] (rmL 6) (fun rZ MZ hZ => con_X11_text g l _ rZ MZ hZ) cv_L_36 ok_22 ⟨by decide, by decide, by show c + 1 ≤ 600000; omega, by show s + 160 ≤ 7302250; omega⟩ dL_law_355 rfl rfl (Nat.le_of_ble_eq_true rfl) (fun r2 M2 => ?_)
  exact r_icmp_eq (pc := 358) ok 1613 dL_law_358 (by decide) (fun _ => hJ M2) (fun _ => r_vac (fun res hr t h => by cases hr; exact absurd (show (0 : Int32) = 1 from h) (by decide)))
def lwC5 (xs : Nat → Int32) (k : Nat) (J : Mem → Option (Int32 × Mem)) (M : Mem) : Option (Int32 × Mem) :=
  ob (fX10_force (xs (k + 1)) M) fun r1 M1 => ob (fX11_force (xs (k + 1)) M1) fun r2 M2 => if r1 = r2 then J M2 else some (0, M2)
set_option maxRecDepth 20000 in
theorem sC5 {g : GP} {l : Launch} {x : CT} {b L k c s : Nat} {xs : Nat → Int32} (ok : Ok g l x RL cL_law 4 (some .boolean) room_1) (hX : va_X b L xs (cxS x) (cxS x).heap) (hbl : b < (cxS x).heap.size) (hbA : ¬ gU g b) (hL : L ≤ 3584) (hk : k + 7 ≤ L) (hc : c + 1 ≤ 600000) (hs : s + 160 ≤ 7302250) (J : Mem → Option (Int32 × Mem)) (hJ : ∀ M, Sw g l x (lwQ x) 4 (c + 1) (s + 160) 1613 (lvL g b k) [] M (J M)) (M : Mem) : Sw g l x (lwQ x) 4 c s 363 (lvL g b k) [] M (lwC5 xs k J M) := by
  unfold lwC5
  refine r_widen (c + 1) (s + 160) (by omega) (by omega) ?_
  refine r_aload_n (pc := 363) ok 2 dL_law_363 rfl ?_
  refine r_aload_n (pc := 364) ok 3 dL_law_364 rfl ?_
  refine r_iload_n (pc := 365) ok 0 dL_law_365 rfl ?_
  refine r_iconst (pc := 366) ok 1 dL_law_366 (by decide) ?_
  refine r_iadd (pc := 367) ok dL_law_367 ?_
  refine r_sld (pc := 368) ok hX hbl hbA (k + 1) (ix_add 1 rfl (by omega) (by omega)) (by omega) dL_law_368 ?_
  refine r_callV (pc := 369) (K := 0) (i := 0) ok [.int (xs (k + 1))] [] (rmL 3) (fun rZ MZ hZ => con_X10_force g l _ _ rZ MZ hZ) cv_L_37 ok_0 ⟨by decide, by decide, by show c + 1 ≤ 600000; omega, by show s + 160 ≤ 7302250; omega⟩ dL_law_369 rfl rfl (Nat.le_of_ble_eq_true rfl) (fun r1 M1 => ?_)
  refine r_aload_n (pc := 372) ok 1 dL_law_372 rfl ?_
  refine r_aload_n (pc := 373) ok 3 dL_law_373 rfl ?_
  refine r_iload_n (pc := 374) ok 0 dL_law_374 rfl ?_
  refine r_iconst (pc := 375) ok 1 dL_law_375 (by decide) ?_
  refine r_iadd (pc := 376) ok dL_law_376 ?_
  refine r_sld (pc := 377) ok hX hbl hbA (k + 1) (ix_add 1 rfl (by omega) (by omega)) (by omega) dL_law_377 ?_
  refine r_callV (pc := 378) (K := 22) (i := 0) ok [.int (xs (k + 1))] [.int r1] (rmL 3) (fun rZ MZ hZ => con_X11_force g l _ _ rZ MZ hZ) cv_L_40 ok_22 ⟨by decide, by decide, by show c + 1 ≤ 600000; omega, by show s + 160 ≤ 7302250; omega⟩ dL_law_378 rfl rfl (Nat.le_of_ble_eq_true rfl) (fun r2 M2 => ?_)
  exact r_icmp_eq (pc := 381) ok 1613 dL_law_381 (by decide) (fun _ => hJ M2) (fun _ => r_vac (fun res hr t h => by cases hr; exact absurd (show (0 : Int32) = 1 from h) (by decide)))
def lwC6 (xs : Nat → Int32) (k : Nat) (J : Mem → Option (Int32 × Mem)) (M : Mem) : Option (Int32 × Mem) :=
  ob (fX10_asks (xs (k + 1)) (xs (k + 2)) (xs (k + 3)) M) fun r1 M1 => ob (fX11_asks (xs (k + 1)) (xs (k + 2)) (xs (k + 3)) M1) fun r2 M2 => if r1 = r2 then J M2 else some (0, M2)
set_option maxRecDepth 20000 in
theorem sC6 {g : GP} {l : Launch} {x : CT} {b L k c s : Nat} {xs : Nat → Int32} (ok : Ok g l x RL cL_law 4 (some .boolean) room_1) (hX : va_X b L xs (cxS x) (cxS x).heap) (hbl : b < (cxS x).heap.size) (hbA : ¬ gU g b) (hL : L ≤ 3584) (hk : k + 7 ≤ L) (hc : c + 1 ≤ 600000) (hs : s + 160 ≤ 7302250) (J : Mem → Option (Int32 × Mem)) (hJ : ∀ M, Sw g l x (lwQ x) 4 (c + 1) (s + 160) 1613 (lvL g b k) [] M (J M)) (M : Mem) : Sw g l x (lwQ x) 4 c s 386 (lvL g b k) [] M (lwC6 xs k J M) := by
  unfold lwC6
  refine r_widen (c + 1) (s + 160) (by omega) (by omega) ?_
  refine r_aload_n (pc := 386) ok 2 dL_law_386 rfl ?_
  refine r_aload_n (pc := 387) ok 3 dL_law_387 rfl ?_
  refine r_iload_n (pc := 388) ok 0 dL_law_388 rfl ?_
  refine r_iconst (pc := 389) ok 1 dL_law_389 (by decide) ?_
  refine r_iadd (pc := 390) ok dL_law_390 ?_
  refine r_sld (pc := 391) ok hX hbl hbA (k + 1) (ix_add 1 rfl (by omega) (by omega)) (by omega) dL_law_391 ?_
  refine r_aload_n (pc := 392) ok 3 dL_law_392 rfl ?_
  refine r_iload_n (pc := 393) ok 0 dL_law_393 rfl ?_
  refine r_iconst (pc := 394) ok 2 dL_law_394 (by decide) ?_
  refine r_iadd (pc := 395) ok dL_law_395 ?_
  refine r_sld (pc := 396) ok hX hbl hbA (k + 2) (ix_add 2 rfl (by omega) (by omega)) (by omega) dL_law_396 ?_
  refine r_aload_n (pc := 397) ok 3 dL_law_397 rfl ?_
  refine r_iload_n (pc := 398) ok 0 dL_law_398 rfl ?_
  refine r_iconst (pc := 399) ok 3 dL_law_399 (by decide) ?_
  refine r_iadd (pc := 400) ok dL_law_400 ?_
  refine r_sld (pc := 401) ok hX hbl hbA (k + 3) (ix_add 3 rfl (by omega) (by omega)) (by omega) dL_law_401 ?_
  refine r_callV (pc := 402) (K := 0) (i := 0) ok [.int (xs (k + 1)), .int (xs (k + 2)), .int (xs (k + 3))] [] (rmL 5) (fun rZ MZ hZ => con_X10_asks g l _ _ _ _ rZ MZ hZ) cv_L_41 ok_0 ⟨by decide, by decide, by show c + 1 ≤ 600000; omega, by show s + 160 ≤ 7302250; omega⟩ dL_law_402 rfl rfl (Nat.le_of_ble_eq_true rfl) (fun r1 M1 => ?_)
  refine r_aload_n (pc := 405) ok 1 dL_law_405 rfl ?_
  refine r_aload_n (pc := 406) ok 3 dL_law_406 rfl ?_
  refine r_iload_n (pc := 407) ok 0 dL_law_407 rfl ?_
  refine r_iconst (pc := 408) ok 1 dL_law_408 (by decide) ?_
  refine r_iadd (pc := 409) ok dL_law_409 ?_
  refine r_sld (pc := 410) ok hX hbl hbA (k + 1) (ix_add 1 rfl (by omega) (by omega)) (by omega) dL_law_410 ?_
  refine r_aload_n (pc := 411) ok 3 dL_law_411 rfl ?_
  refine r_iload_n (pc := 412) ok 0 dL_law_412 rfl ?_
  refine r_iconst (pc := 413) ok 2 dL_law_413 (by decide) ?_
  refine r_iadd (pc := 414) ok dL_law_414 ?_
  refine r_sld (pc := 415) ok hX hbl hbA (k + 2) (ix_add 2 rfl (by omega) (by omega)) (by omega) dL_law_415 ?_
  refine r_aload_n (pc := 416) ok 3 dL_law_416 rfl ?_
  refine r_iload_n (pc := 417) ok 0 dL_law_417 rfl ?_
  refine r_iconst (pc := 418) ok 3 dL_law_418 (by decide) ?_
  refine r_iadd (pc := 419) ok dL_law_419 ?_
  refine r_sld (pc := 420) ok hX hbl hbA (k + 3) (ix_add 3 rfl (by omega) (by omega)) (by omega) dL_law_420 ?_
  refine r_callV (pc := 421) (K := 22) (i := 0) ok [.int (xs (k + 1)), .int (xs (k + 2)), .int (xs (k + 3))] [.int r1] (rmL 5) (fun rZ MZ hZ => con_X11_asks g l _ _ _ _ rZ MZ hZ) cv_L_45 ok_22 ⟨by decide, by decide, by show c + 1 ≤ 600000; omega, by show s + 160 ≤ 7302250; omega⟩ dL_law_421 rfl rfl (Nat.le_of_ble_eq_true rfl) (fun r2 M2 => ?_)
  exact r_icmp_eq (pc := 424) ok 1613 dL_law_424 (by decide) (fun _ => hJ M2) (fun _ => r_vac (fun res hr t h => by cases hr; exact absurd (show (0 : Int32) = 1 from h) (by decide)))
def lwC7 (xs : Nat → Int32) (k : Nat) (J : Mem → Option (Int32 × Mem)) (M : Mem) : Option (Int32 × Mem) :=
  ob (fX10_person (xs (k + 1)) (xs (k + 2)) M) fun r1 M1 => ob (fX11_person (xs (k + 1)) (xs (k + 2)) M1) fun r2 M2 => if r1 = r2 then J M2 else some (0, M2)
set_option maxRecDepth 20000 in
theorem sC7 {g : GP} {l : Launch} {x : CT} {b L k c s : Nat} {xs : Nat → Int32} (ok : Ok g l x RL cL_law 4 (some .boolean) room_1) (hX : va_X b L xs (cxS x) (cxS x).heap) (hbl : b < (cxS x).heap.size) (hbA : ¬ gU g b) (hL : L ≤ 3584) (hk : k + 7 ≤ L) (hc : c + 1 ≤ 600000) (hs : s + 160 ≤ 7302250) (J : Mem → Option (Int32 × Mem)) (hJ : ∀ M, Sw g l x (lwQ x) 4 (c + 1) (s + 160) 1613 (lvL g b k) [] M (J M)) (M : Mem) : Sw g l x (lwQ x) 4 c s 429 (lvL g b k) [] M (lwC7 xs k J M) := by
  unfold lwC7
  refine r_widen (c + 1) (s + 160) (by omega) (by omega) ?_
  refine r_aload_n (pc := 429) ok 2 dL_law_429 rfl ?_
  refine r_aload_n (pc := 430) ok 3 dL_law_430 rfl ?_
  refine r_iload_n (pc := 431) ok 0 dL_law_431 rfl ?_
  refine r_iconst (pc := 432) ok 1 dL_law_432 (by decide) ?_
  refine r_iadd (pc := 433) ok dL_law_433 ?_
  refine r_sld (pc := 434) ok hX hbl hbA (k + 1) (ix_add 1 rfl (by omega) (by omega)) (by omega) dL_law_434 ?_
  refine r_aload_n (pc := 435) ok 3 dL_law_435 rfl ?_
  refine r_iload_n (pc := 436) ok 0 dL_law_436 rfl ?_
  refine r_iconst (pc := 437) ok 2 dL_law_437 (by decide) ?_
  refine r_iadd (pc := 438) ok dL_law_438 ?_
  refine r_sld (pc := 439) ok hX hbl hbA (k + 2) (ix_add 2 rfl (by omega) (by omega)) (by omega) dL_law_439 ?_
  refine r_callV (pc := 440) (K := 0) (i := 0) ok [.int (xs (k + 1)), .int (xs (k + 2))] [] (rmL 3) (fun rZ MZ hZ => con_X10_person g l _ _ _ rZ MZ hZ) cv_L_46 ok_0 ⟨by decide, by decide, by show c + 1 ≤ 600000; omega, by show s + 160 ≤ 7302250; omega⟩ dL_law_440 rfl rfl (Nat.le_of_ble_eq_true rfl) (fun r1 M1 => ?_)
  refine r_aload_n (pc := 443) ok 1 dL_law_443 rfl ?_
  refine r_aload_n (pc := 444) ok 3 dL_law_444 rfl ?_
  refine r_iload_n (pc := 445) ok 0 dL_law_445 rfl ?_
  refine r_iconst (pc := 446) ok 1 dL_law_446 (by decide) ?_
  refine r_iadd (pc := 447) ok dL_law_447 ?_
  refine r_sld (pc := 448) ok hX hbl hbA (k + 1) (ix_add 1 rfl (by omega) (by omega)) (by omega) dL_law_448 ?_
  refine r_aload_n (pc := 449) ok 3 dL_law_449 rfl ?_
  refine r_iload_n (pc := 450) ok 0 dL_law_450 rfl ?_
  refine r_iconst (pc := 451) ok 2 dL_law_451 (by decide) ?_
  refine r_iadd (pc := 452) ok dL_law_452 ?_
  refine r_sld (pc := 453) ok hX hbl hbA (k + 2) (ix_add 2 rfl (by omega) (by omega)) (by omega) dL_law_453 ?_
  refine r_callV (pc := 454) (K := 22) (i := 0) ok [.int (xs (k + 1)), .int (xs (k + 2))] [.int r1] (rmL 3) (fun rZ MZ hZ => con_X11_person g l _ _ _ rZ MZ hZ) cv_L_49 ok_22 ⟨by decide, by decide, by show c + 1 ≤ 600000; omega, by show s + 160 ≤ 7302250; omega⟩ dL_law_454 rfl rfl (Nat.le_of_ble_eq_true rfl) (fun r2 M2 => ?_)
  exact r_icmp_eq (pc := 457) ok 1613 dL_law_457 (by decide) (fun _ => hJ M2) (fun _ => r_vac (fun res hr t h => by cases hr; exact absurd (show (0 : Int32) = 1 from h) (by decide)))
def lwC8 (xs : Nat → Int32) (k : Nat) (J : Mem → Option (Int32 × Mem)) (M : Mem) : Option (Int32 × Mem) :=
  ob (fX10_put (xs (k + 1)) (xs (k + 2)) (xs (k + 3)) M) fun r1 M1 => ob (fX11_put (xs (k + 1)) (xs (k + 2)) (xs (k + 3)) M1) fun r2 M2 => if r1 = r2 then J M2 else some (0, M2)
set_option maxRecDepth 20000 in
theorem sC8 {g : GP} {l : Launch} {x : CT} {b L k c s : Nat} {xs : Nat → Int32} (ok : Ok g l x RL cL_law 4 (some .boolean) room_1) (hX : va_X b L xs (cxS x) (cxS x).heap) (hbl : b < (cxS x).heap.size) (hbA : ¬ gU g b) (hL : L ≤ 3584) (hk : k + 7 ≤ L) (hc : c + 1 ≤ 600000) (hs : s + 160 ≤ 7302250) (J : Mem → Option (Int32 × Mem)) (hJ : ∀ M, Sw g l x (lwQ x) 4 (c + 1) (s + 160) 1613 (lvL g b k) [] M (J M)) (M : Mem) : Sw g l x (lwQ x) 4 c s 462 (lvL g b k) [] M (lwC8 xs k J M) := by
  unfold lwC8
  refine r_widen (c + 1) (s + 160) (by omega) (by omega) ?_
  refine r_aload_n (pc := 462) ok 2 dL_law_462 rfl ?_
  refine r_aload_n (pc := 463) ok 3 dL_law_463 rfl ?_
  refine r_iload_n (pc := 464) ok 0 dL_law_464 rfl ?_
  refine r_iconst (pc := 465) ok 1 dL_law_465 (by decide) ?_
  refine r_iadd (pc := 466) ok dL_law_466 ?_
  refine r_sld (pc := 467) ok hX hbl hbA (k + 1) (ix_add 1 rfl (by omega) (by omega)) (by omega) dL_law_467 ?_
  refine r_aload_n (pc := 468) ok 3 dL_law_468 rfl ?_
  refine r_iload_n (pc := 469) ok 0 dL_law_469 rfl ?_
  refine r_iconst (pc := 470) ok 2 dL_law_470 (by decide) ?_
  refine r_iadd (pc := 471) ok dL_law_471 ?_
  refine r_sld (pc := 472) ok hX hbl hbA (k + 2) (ix_add 2 rfl (by omega) (by omega)) (by omega) dL_law_472 ?_
  refine r_aload_n (pc := 473) ok 3 dL_law_473 rfl ?_
  refine r_iload_n (pc := 474) ok 0 dL_law_474 rfl ?_
  refine r_iconst (pc := 475) ok 3 dL_law_475 (by decide) ?_
  refine r_iadd (pc := 476) ok dL_law_476 ?_
  refine r_sld (pc := 477) ok hX hbl hbA (k + 3) (ix_add 3 rfl (by omega) (by omega)) (by omega) dL_law_477 ?_
  refine r_callV (pc := 478) (K := 0) (i := 0) ok [.int (xs (k + 1)), .int (xs (k + 2)), .int (xs (k + 3))] [] (rmL 4) (fun rZ MZ hZ => con_X10_put g l _ _ _ _ rZ MZ hZ) cv_L_50 ok_0 ⟨by decide, by decide, by show c + 1 ≤ 600000; omega, by show s + 160 ≤ 7302250; omega⟩ dL_law_478 rfl rfl (Nat.le_of_ble_eq_true rfl) (fun r1 M1 => ?_)
  refine r_aload_n (pc := 481) ok 1 dL_law_481 rfl ?_
  refine r_aload_n (pc := 482) ok 3 dL_law_482 rfl ?_
  refine r_iload_n (pc := 483) ok 0 dL_law_483 rfl ?_
  refine r_iconst (pc := 484) ok 1 dL_law_484 (by decide) ?_
  refine r_iadd (pc := 485) ok dL_law_485 ?_
  refine r_sld (pc := 486) ok hX hbl hbA (k + 1) (ix_add 1 rfl (by omega) (by omega)) (by omega) dL_law_486 ?_
  refine r_aload_n (pc := 487) ok 3 dL_law_487 rfl ?_
  refine r_iload_n (pc := 488) ok 0 dL_law_488 rfl ?_
  refine r_iconst (pc := 489) ok 2 dL_law_489 (by decide) ?_
  refine r_iadd (pc := 490) ok dL_law_490 ?_
  refine r_sld (pc := 491) ok hX hbl hbA (k + 2) (ix_add 2 rfl (by omega) (by omega)) (by omega) dL_law_491 ?_
  refine r_aload_n (pc := 492) ok 3 dL_law_492 rfl ?_
  refine r_iload_n (pc := 493) ok 0 dL_law_493 rfl ?_
  refine r_iconst (pc := 494) ok 3 dL_law_494 (by decide) ?_
  refine r_iadd (pc := 495) ok dL_law_495 ?_
  refine r_sld (pc := 496) ok hX hbl hbA (k + 3) (ix_add 3 rfl (by omega) (by omega)) (by omega) dL_law_496 ?_
  refine r_callV (pc := 497) (K := 22) (i := 0) ok [.int (xs (k + 1)), .int (xs (k + 2)), .int (xs (k + 3))] [.int r1] (rmL 4) (fun rZ MZ hZ => con_X11_put g l _ _ _ _ rZ MZ hZ) cv_L_53 ok_22 ⟨by decide, by decide, by show c + 1 ≤ 600000; omega, by show s + 160 ≤ 7302250; omega⟩ dL_law_497 rfl rfl (Nat.le_of_ble_eq_true rfl) (fun r2 M2 => ?_)
  exact r_icmp_eq (pc := 500) ok 1613 dL_law_500 (by decide) (fun _ => hJ M2) (fun _ => r_vac (fun res hr t h => by cases hr; exact absurd (show (0 : Int32) = 1 from h) (by decide)))
def lwC9 (xs : Nat → Int32) (k : Nat) (J : Mem → Option (Int32 × Mem)) (M : Mem) : Option (Int32 × Mem) :=
  ob (fX10_told (xs (k + 1)) (xs (k + 2)) M) fun r1 M1 => ob (fX11_told (xs (k + 1)) (xs (k + 2)) M1) fun r2 M2 => if r1 = r2 then J M2 else some (0, M2)
set_option maxRecDepth 20000 in
theorem sC9 {g : GP} {l : Launch} {x : CT} {b L k c s : Nat} {xs : Nat → Int32} (ok : Ok g l x RL cL_law 4 (some .boolean) room_1) (hX : va_X b L xs (cxS x) (cxS x).heap) (hbl : b < (cxS x).heap.size) (hbA : ¬ gU g b) (hL : L ≤ 3584) (hk : k + 7 ≤ L) (hc : c + 1 ≤ 600000) (hs : s + 160 ≤ 7302250) (J : Mem → Option (Int32 × Mem)) (hJ : ∀ M, Sw g l x (lwQ x) 4 (c + 1) (s + 160) 1613 (lvL g b k) [] M (J M)) (M : Mem) : Sw g l x (lwQ x) 4 c s 505 (lvL g b k) [] M (lwC9 xs k J M) := by
  unfold lwC9
  refine r_widen (c + 1) (s + 160) (by omega) (by omega) ?_
  refine r_aload_n (pc := 505) ok 2 dL_law_505 rfl ?_
  refine r_aload_n (pc := 506) ok 3 dL_law_506 rfl ?_
  refine r_iload_n (pc := 507) ok 0 dL_law_507 rfl ?_
  refine r_iconst (pc := 508) ok 1 dL_law_508 (by decide) ?_
  refine r_iadd (pc := 509) ok dL_law_509 ?_
  refine r_sld (pc := 510) ok hX hbl hbA (k + 1) (ix_add 1 rfl (by omega) (by omega)) (by omega) dL_law_510 ?_
  refine r_aload_n (pc := 511) ok 3 dL_law_511 rfl ?_
  refine r_iload_n (pc := 512) ok 0 dL_law_512 rfl ?_
  refine r_iconst (pc := 513) ok 2 dL_law_513 (by decide) ?_
  refine r_iadd (pc := 514) ok dL_law_514 ?_
  refine r_sld (pc := 515) ok hX hbl hbA (k + 2) (ix_add 2 rfl (by omega) (by omega)) (by omega) dL_law_515 ?_
  refine r_callV (pc := 516) (K := 0) (i := 0) ok [.int (xs (k + 1)), .int (xs (k + 2))] [] (rmL 4) (fun rZ MZ hZ => con_X10_told g l _ _ _ rZ MZ hZ) cv_L_54 ok_0 ⟨by decide, by decide, by show c + 1 ≤ 600000; omega, by show s + 160 ≤ 7302250; omega⟩ dL_law_516 rfl rfl (Nat.le_of_ble_eq_true rfl) (fun r1 M1 => ?_)
  refine r_aload_n (pc := 519) ok 1 dL_law_519 rfl ?_
  refine r_aload_n (pc := 520) ok 3 dL_law_520 rfl ?_
  refine r_iload_n (pc := 521) ok 0 dL_law_521 rfl ?_
  refine r_iconst (pc := 522) ok 1 dL_law_522 (by decide) ?_
  refine r_iadd (pc := 523) ok dL_law_523 ?_
  refine r_sld (pc := 524) ok hX hbl hbA (k + 1) (ix_add 1 rfl (by omega) (by omega)) (by omega) dL_law_524 ?_
  refine r_aload_n (pc := 525) ok 3 dL_law_525 rfl ?_
  refine r_iload_n (pc := 526) ok 0 dL_law_526 rfl ?_
  refine r_iconst (pc := 527) ok 2 dL_law_527 (by decide) ?_
  refine r_iadd (pc := 528) ok dL_law_528 ?_
  refine r_sld (pc := 529) ok hX hbl hbA (k + 2) (ix_add 2 rfl (by omega) (by omega)) (by omega) dL_law_529 ?_
  refine r_callV (pc := 530) (K := 22) (i := 0) ok [.int (xs (k + 1)), .int (xs (k + 2))] [.int r1] (rmL 4) (fun rZ MZ hZ => con_X11_told g l _ _ _ rZ MZ hZ) cv_L_57 ok_22 ⟨by decide, by decide, by show c + 1 ≤ 600000; omega, by show s + 160 ≤ 7302250; omega⟩ dL_law_530 rfl rfl (Nat.le_of_ble_eq_true rfl) (fun r2 M2 => ?_)
  exact r_icmp_eq (pc := 533) ok 1613 dL_law_533 (by decide) (fun _ => hJ M2) (fun _ => r_vac (fun res hr t h => by cases hr; exact absurd (show (0 : Int32) = 1 from h) (by decide)))
def lwC10 (xs : Nat → Int32) (k : Nat) (J : Mem → Option (Int32 × Mem)) (M : Mem) : Option (Int32 × Mem) :=
  ob (fX10_day M) fun r1 M1 => ob (fX11_day M1) fun r2 M2 => if r1 = r2 then J M2 else some (0, M2)
set_option maxRecDepth 20000 in
theorem sC10 {g : GP} {l : Launch} {x : CT} {b L k c s : Nat} {xs : Nat → Int32} (ok : Ok g l x RL cL_law 4 (some .boolean) room_1) (hX : va_X b L xs (cxS x) (cxS x).heap) (hbl : b < (cxS x).heap.size) (hbA : ¬ gU g b) (hL : L ≤ 3584) (hk : k + 7 ≤ L) (hc : c + 1 ≤ 600000) (hs : s + 160 ≤ 7302250) (J : Mem → Option (Int32 × Mem)) (hJ : ∀ M, Sw g l x (lwQ x) 4 (c + 1) (s + 160) 1613 (lvL g b k) [] M (J M)) (M : Mem) : Sw g l x (lwQ x) 4 c s 538 (lvL g b k) [] M (lwC10 xs k J M) := by
  unfold lwC10
  refine r_widen (c + 1) (s + 160) (by omega) (by omega) ?_
  refine r_aload_n (pc := 538) ok 2 dL_law_538 rfl ?_
  refine r_callV (pc := 539) (K := 0) (i := 0) ok [] [] (rmL 8) (fun rZ MZ hZ => con_X10_day g l _ rZ MZ hZ) cv_L_58 ok_0 ⟨by decide, by decide, by show c + 1 ≤ 600000; omega, by show s + 160 ≤ 7302250; omega⟩ dL_law_539 rfl rfl (Nat.le_of_ble_eq_true rfl) (fun r1 M1 => ?_)
  refine r_aload_n (pc := 542) ok 1 dL_law_542 rfl ?_
  refine r_callV (pc := 543) (K := 22) (i := 0) ok [] [.int r1] (rmL 7) (fun rZ MZ hZ => con_X11_day g l _ rZ MZ hZ) cv_L_61 ok_22 ⟨by decide, by decide, by show c + 1 ≤ 600000; omega, by show s + 160 ≤ 7302250; omega⟩ dL_law_543 rfl rfl (Nat.le_of_ble_eq_true rfl) (fun r2 M2 => ?_)
  exact r_icmp_eq (pc := 546) ok 1613 dL_law_546 (by decide) (fun _ => hJ M2) (fun _ => r_vac (fun res hr t h => by cases hr; exact absurd (show (0 : Int32) = 1 from h) (by decide)))
def lwC11 (xs : Nat → Int32) (k : Nat) (J : Mem → Option (Int32 × Mem)) (M : Mem) : Option (Int32 × Mem) :=
  ob (fX10_leaves (xs (k + 1)) (xs (k + 2)) (xs (k + 3)) M) fun r1 M1 => ob (fX11_leaves (xs (k + 1)) (xs (k + 2)) (xs (k + 3)) M1) fun r2 M2 => if r1 = r2 then J M2 else some (0, M2)
set_option maxRecDepth 20000 in
theorem sC11 {g : GP} {l : Launch} {x : CT} {b L k c s : Nat} {xs : Nat → Int32} (ok : Ok g l x RL cL_law 4 (some .boolean) room_1) (hX : va_X b L xs (cxS x) (cxS x).heap) (hbl : b < (cxS x).heap.size) (hbA : ¬ gU g b) (hL : L ≤ 3584) (hk : k + 7 ≤ L) (hc : c + 1 ≤ 600000) (hs : s + 160 ≤ 7302250) (J : Mem → Option (Int32 × Mem)) (hJ : ∀ M, Sw g l x (lwQ x) 4 (c + 1) (s + 160) 1613 (lvL g b k) [] M (J M)) (M : Mem) : Sw g l x (lwQ x) 4 c s 551 (lvL g b k) [] M (lwC11 xs k J M) := by
  unfold lwC11
  refine r_widen (c + 1) (s + 160) (by omega) (by omega) ?_
  refine r_aload_n (pc := 551) ok 2 dL_law_551 rfl ?_
  refine r_aload_n (pc := 552) ok 3 dL_law_552 rfl ?_
  refine r_iload_n (pc := 553) ok 0 dL_law_553 rfl ?_
  refine r_iconst (pc := 554) ok 1 dL_law_554 (by decide) ?_
  refine r_iadd (pc := 555) ok dL_law_555 ?_
  refine r_sld (pc := 556) ok hX hbl hbA (k + 1) (ix_add 1 rfl (by omega) (by omega)) (by omega) dL_law_556 ?_
  refine r_aload_n (pc := 557) ok 3 dL_law_557 rfl ?_
  refine r_iload_n (pc := 558) ok 0 dL_law_558 rfl ?_
  refine r_iconst (pc := 559) ok 2 dL_law_559 (by decide) ?_
  refine r_iadd (pc := 560) ok dL_law_560 ?_
  refine r_sld (pc := 561) ok hX hbl hbA (k + 2) (ix_add 2 rfl (by omega) (by omega)) (by omega) dL_law_561 ?_
  refine r_aload_n (pc := 562) ok 3 dL_law_562 rfl ?_
  refine r_iload_n (pc := 563) ok 0 dL_law_563 rfl ?_
  refine r_iconst (pc := 564) ok 3 dL_law_564 (by decide) ?_
  refine r_iadd (pc := 565) ok dL_law_565 ?_
  refine r_sld (pc := 566) ok hX hbl hbA (k + 3) (ix_add 3 rfl (by omega) (by omega)) (by omega) dL_law_566 ?_
  refine r_callV (pc := 567) (K := 0) (i := 0) ok [.int (xs (k + 1)), .int (xs (k + 2)), .int (xs (k + 3))] [] (rmL 8) (fun rZ MZ hZ => con_X10_leaves g l _ _ _ _ rZ MZ hZ) cv_L_62 ok_0 ⟨by decide, by decide, by show c + 1 ≤ 600000; omega, by show s + 160 ≤ 7302250; omega⟩ dL_law_567 rfl rfl (Nat.le_of_ble_eq_true rfl) (fun r1 M1 => ?_)
  refine r_aload_n (pc := 570) ok 1 dL_law_570 rfl ?_
  refine r_aload_n (pc := 571) ok 3 dL_law_571 rfl ?_
  refine r_iload_n (pc := 572) ok 0 dL_law_572 rfl ?_
  refine r_iconst (pc := 573) ok 1 dL_law_573 (by decide) ?_
  refine r_iadd (pc := 574) ok dL_law_574 ?_
  refine r_sld (pc := 575) ok hX hbl hbA (k + 1) (ix_add 1 rfl (by omega) (by omega)) (by omega) dL_law_575 ?_
  refine r_aload_n (pc := 576) ok 3 dL_law_576 rfl ?_
  refine r_iload_n (pc := 577) ok 0 dL_law_577 rfl ?_
  refine r_iconst (pc := 578) ok 2 dL_law_578 (by decide) ?_
  refine r_iadd (pc := 579) ok dL_law_579 ?_
  refine r_sld (pc := 580) ok hX hbl hbA (k + 2) (ix_add 2 rfl (by omega) (by omega)) (by omega) dL_law_580 ?_
  refine r_aload_n (pc := 581) ok 3 dL_law_581 rfl ?_
  refine r_iload_n (pc := 582) ok 0 dL_law_582 rfl ?_
  refine r_iconst (pc := 583) ok 3 dL_law_583 (by decide) ?_
  refine r_iadd (pc := 584) ok dL_law_584 ?_
  refine r_sld (pc := 585) ok hX hbl hbA (k + 3) (ix_add 3 rfl (by omega) (by omega)) (by omega) dL_law_585 ?_
  refine r_callV (pc := 586) (K := 22) (i := 0) ok [.int (xs (k + 1)), .int (xs (k + 2)), .int (xs (k + 3))] [.int r1] (rmL 5) (fun rZ MZ hZ => con_X11_leaves g l _ _ _ _ rZ MZ hZ) cv_L_65 ok_22 ⟨by decide, by decide, by show c + 1 ≤ 600000; omega, by show s + 160 ≤ 7302250; omega⟩ dL_law_586 rfl rfl (Nat.le_of_ble_eq_true rfl) (fun r2 M2 => ?_)
  exact r_icmp_eq (pc := 589) ok 1613 dL_law_589 (by decide) (fun _ => hJ M2) (fun _ => r_vac (fun res hr t h => by cases hr; exact absurd (show (0 : Int32) = 1 from h) (by decide)))
def lwC12 (xs : Nat → Int32) (k : Nat) (J : Mem → Option (Int32 × Mem)) (M : Mem) : Option (Int32 × Mem) :=
  ob (fX10_run (xs (k + 1)) (xs (k + 2)) M) fun r1 M1 => ob (fX11_run (xs (k + 1)) (xs (k + 2)) M1) fun r2 M2 => if r1 = r2 then J M2 else some (0, M2)
set_option maxRecDepth 20000 in
theorem sC12 {g : GP} {l : Launch} {x : CT} {b L k c s : Nat} {xs : Nat → Int32} (ok : Ok g l x RL cL_law 4 (some .boolean) room_1) (hX : va_X b L xs (cxS x) (cxS x).heap) (hbl : b < (cxS x).heap.size) (hbA : ¬ gU g b) (hL : L ≤ 3584) (hk : k + 7 ≤ L) (hc : c + 1 ≤ 600000) (hs : s + 160 ≤ 7302250) (J : Mem → Option (Int32 × Mem)) (hJ : ∀ M, Sw g l x (lwQ x) 4 (c + 1) (s + 160) 1613 (lvL g b k) [] M (J M)) (M : Mem) : Sw g l x (lwQ x) 4 c s 594 (lvL g b k) [] M (lwC12 xs k J M) := by
  unfold lwC12
  refine r_widen (c + 1) (s + 160) (by omega) (by omega) ?_
  refine r_aload_n (pc := 594) ok 2 dL_law_594 rfl ?_
  refine r_aload_n (pc := 595) ok 3 dL_law_595 rfl ?_
  refine r_iload_n (pc := 596) ok 0 dL_law_596 rfl ?_
  refine r_iconst (pc := 597) ok 1 dL_law_597 (by decide) ?_
  refine r_iadd (pc := 598) ok dL_law_598 ?_
  refine r_sld (pc := 599) ok hX hbl hbA (k + 1) (ix_add 1 rfl (by omega) (by omega)) (by omega) dL_law_599 ?_
  refine r_aload_n (pc := 600) ok 3 dL_law_600 rfl ?_
  refine r_iload_n (pc := 601) ok 0 dL_law_601 rfl ?_
  refine r_iconst (pc := 602) ok 2 dL_law_602 (by decide) ?_
  refine r_iadd (pc := 603) ok dL_law_603 ?_
  refine r_sld (pc := 604) ok hX hbl hbA (k + 2) (ix_add 2 rfl (by omega) (by omega)) (by omega) dL_law_604 ?_
  refine r_callV (pc := 605) (K := 0) (i := 0) ok [.int (xs (k + 1)), .int (xs (k + 2))] [] (rmL 9) (fun rZ MZ hZ => con_X10_run g l _ _ _ rZ MZ hZ) cv_L_66 ok_0 ⟨by decide, by decide, by show c + 1 ≤ 600000; omega, by show s + 160 ≤ 7302250; omega⟩ dL_law_605 rfl rfl (Nat.le_of_ble_eq_true rfl) (fun r1 M1 => ?_)
  refine r_aload_n (pc := 608) ok 1 dL_law_608 rfl ?_
  refine r_aload_n (pc := 609) ok 3 dL_law_609 rfl ?_
  refine r_iload_n (pc := 610) ok 0 dL_law_610 rfl ?_
  refine r_iconst (pc := 611) ok 1 dL_law_611 (by decide) ?_
  refine r_iadd (pc := 612) ok dL_law_612 ?_
  refine r_sld (pc := 613) ok hX hbl hbA (k + 1) (ix_add 1 rfl (by omega) (by omega)) (by omega) dL_law_613 ?_
  refine r_aload_n (pc := 614) ok 3 dL_law_614 rfl ?_
  refine r_iload_n (pc := 615) ok 0 dL_law_615 rfl ?_
  refine r_iconst (pc := 616) ok 2 dL_law_616 (by decide) ?_
  refine r_iadd (pc := 617) ok dL_law_617 ?_
  refine r_sld (pc := 618) ok hX hbl hbA (k + 2) (ix_add 2 rfl (by omega) (by omega)) (by omega) dL_law_618 ?_
  refine r_callV (pc := 619) (K := 22) (i := 0) ok [.int (xs (k + 1)), .int (xs (k + 2))] [.int r1] (rmL 7) (fun rZ MZ hZ => con_X11_run g l _ _ _ rZ MZ hZ) cv_L_69 ok_22 ⟨by decide, by decide, by show c + 1 ≤ 600000; omega, by show s + 160 ≤ 7302250; omega⟩ dL_law_619 rfl rfl (Nat.le_of_ble_eq_true rfl) (fun r2 M2 => ?_)
  exact r_icmp_eq (pc := 622) ok 1613 dL_law_622 (by decide) (fun _ => hJ M2) (fun _ => r_vac (fun res hr t h => by cases hr; exact absurd (show (0 : Int32) = 1 from h) (by decide)))
def lwC13 (xs : Nat → Int32) (k : Nat) (J : Mem → Option (Int32 × Mem)) (M : Mem) : Option (Int32 × Mem) :=
  ob (fX10_sinks (xs (k + 1)) (xs (k + 2)) M) fun r1 M1 => ob (fX11_sinks (xs (k + 1)) (xs (k + 2)) M1) fun r2 M2 => if r1 = r2 then J M2 else some (0, M2)
set_option maxRecDepth 20000 in
theorem sC13 {g : GP} {l : Launch} {x : CT} {b L k c s : Nat} {xs : Nat → Int32} (ok : Ok g l x RL cL_law 4 (some .boolean) room_1) (hX : va_X b L xs (cxS x) (cxS x).heap) (hbl : b < (cxS x).heap.size) (hbA : ¬ gU g b) (hL : L ≤ 3584) (hk : k + 7 ≤ L) (hc : c + 1 ≤ 600000) (hs : s + 160 ≤ 7302250) (J : Mem → Option (Int32 × Mem)) (hJ : ∀ M, Sw g l x (lwQ x) 4 (c + 1) (s + 160) 1613 (lvL g b k) [] M (J M)) (M : Mem) : Sw g l x (lwQ x) 4 c s 627 (lvL g b k) [] M (lwC13 xs k J M) := by
  unfold lwC13
  refine r_widen (c + 1) (s + 160) (by omega) (by omega) ?_
  refine r_aload_n (pc := 627) ok 2 dL_law_627 rfl ?_
  refine r_aload_n (pc := 628) ok 3 dL_law_628 rfl ?_
  refine r_iload_n (pc := 629) ok 0 dL_law_629 rfl ?_
  refine r_iconst (pc := 630) ok 1 dL_law_630 (by decide) ?_
  refine r_iadd (pc := 631) ok dL_law_631 ?_
  refine r_sld (pc := 632) ok hX hbl hbA (k + 1) (ix_add 1 rfl (by omega) (by omega)) (by omega) dL_law_632 ?_
  refine r_aload_n (pc := 633) ok 3 dL_law_633 rfl ?_
  refine r_iload_n (pc := 634) ok 0 dL_law_634 rfl ?_
  refine r_iconst (pc := 635) ok 2 dL_law_635 (by decide) ?_
  refine r_iadd (pc := 636) ok dL_law_636 ?_
  refine r_sld (pc := 637) ok hX hbl hbA (k + 2) (ix_add 2 rfl (by omega) (by omega)) (by omega) dL_law_637 ?_
  refine r_callV (pc := 638) (K := 0) (i := 0) ok [.int (xs (k + 1)), .int (xs (k + 2))] [] (rmL 8) (fun rZ MZ hZ => con_X10_sinks g l _ _ _ rZ MZ hZ) cv_L_70 ok_0 ⟨by decide, by decide, by show c + 1 ≤ 600000; omega, by show s + 160 ≤ 7302250; omega⟩ dL_law_638 rfl rfl (Nat.le_of_ble_eq_true rfl) (fun r1 M1 => ?_)
  refine r_aload_n (pc := 641) ok 1 dL_law_641 rfl ?_
  refine r_aload_n (pc := 642) ok 3 dL_law_642 rfl ?_
  refine r_iload_n (pc := 643) ok 0 dL_law_643 rfl ?_
  refine r_iconst (pc := 644) ok 1 dL_law_644 (by decide) ?_
  refine r_iadd (pc := 645) ok dL_law_645 ?_
  refine r_sld (pc := 646) ok hX hbl hbA (k + 1) (ix_add 1 rfl (by omega) (by omega)) (by omega) dL_law_646 ?_
  refine r_aload_n (pc := 647) ok 3 dL_law_647 rfl ?_
  refine r_iload_n (pc := 648) ok 0 dL_law_648 rfl ?_
  refine r_iconst (pc := 649) ok 2 dL_law_649 (by decide) ?_
  refine r_iadd (pc := 650) ok dL_law_650 ?_
  refine r_sld (pc := 651) ok hX hbl hbA (k + 2) (ix_add 2 rfl (by omega) (by omega)) (by omega) dL_law_651 ?_
  refine r_callV (pc := 652) (K := 22) (i := 0) ok [.int (xs (k + 1)), .int (xs (k + 2))] [.int r1] (rmL 7) (fun rZ MZ hZ => con_X11_sinks g l _ _ _ rZ MZ hZ) cv_L_73 ok_22 ⟨by decide, by decide, by show c + 1 ≤ 600000; omega, by show s + 160 ≤ 7302250; omega⟩ dL_law_652 rfl rfl (Nat.le_of_ble_eq_true rfl) (fun r2 M2 => ?_)
  exact r_icmp_eq (pc := 655) ok 1613 dL_law_655 (by decide) (fun _ => hJ M2) (fun _ => r_vac (fun res hr t h => by cases hr; exact absurd (show (0 : Int32) = 1 from h) (by decide)))
def lwC14 (xs : Nat → Int32) (k : Nat) (J : Mem → Option (Int32 × Mem)) (M : Mem) : Option (Int32 × Mem) :=
  ob (fX10_walk (xs (k + 1)) (xs (k + 2)) (xs (k + 3)) M) fun r1 M1 => ob (fX11_walk (xs (k + 1)) (xs (k + 2)) (xs (k + 3)) M1) fun r2 M2 => if r1 = r2 then J M2 else some (0, M2)
set_option maxRecDepth 20000 in
theorem sC14 {g : GP} {l : Launch} {x : CT} {b L k c s : Nat} {xs : Nat → Int32} (ok : Ok g l x RL cL_law 4 (some .boolean) room_1) (hX : va_X b L xs (cxS x) (cxS x).heap) (hbl : b < (cxS x).heap.size) (hbA : ¬ gU g b) (hL : L ≤ 3584) (hk : k + 7 ≤ L) (hc : c + 1 ≤ 600000) (hs : s + 160 ≤ 7302250) (J : Mem → Option (Int32 × Mem)) (hJ : ∀ M, Sw g l x (lwQ x) 4 (c + 1) (s + 160) 1613 (lvL g b k) [] M (J M)) (M : Mem) : Sw g l x (lwQ x) 4 c s 660 (lvL g b k) [] M (lwC14 xs k J M) := by
  unfold lwC14
  refine r_widen (c + 1) (s + 160) (by omega) (by omega) ?_
  refine r_aload_n (pc := 660) ok 2 dL_law_660 rfl ?_
  refine r_aload_n (pc := 661) ok 3 dL_law_661 rfl ?_
  refine r_iload_n (pc := 662) ok 0 dL_law_662 rfl ?_
  refine r_iconst (pc := 663) ok 1 dL_law_663 (by decide) ?_
  refine r_iadd (pc := 664) ok dL_law_664 ?_
  refine r_sld (pc := 665) ok hX hbl hbA (k + 1) (ix_add 1 rfl (by omega) (by omega)) (by omega) dL_law_665 ?_
  refine r_aload_n (pc := 666) ok 3 dL_law_666 rfl ?_
  refine r_iload_n (pc := 667) ok 0 dL_law_667 rfl ?_
  refine r_iconst (pc := 668) ok 2 dL_law_668 (by decide) ?_
  refine r_iadd (pc := 669) ok dL_law_669 ?_
  refine r_sld (pc := 670) ok hX hbl hbA (k + 2) (ix_add 2 rfl (by omega) (by omega)) (by omega) dL_law_670 ?_
  refine r_aload_n (pc := 671) ok 3 dL_law_671 rfl ?_
  refine r_iload_n (pc := 672) ok 0 dL_law_672 rfl ?_
  refine r_iconst (pc := 673) ok 3 dL_law_673 (by decide) ?_
  refine r_iadd (pc := 674) ok dL_law_674 ?_
  refine r_sld (pc := 675) ok hX hbl hbA (k + 3) (ix_add 3 rfl (by omega) (by omega)) (by omega) dL_law_675 ?_
  refine r_callV (pc := 676) (K := 0) (i := 0) ok [.int (xs (k + 1)), .int (xs (k + 2)), .int (xs (k + 3))] [] (rmL 8) (fun rZ MZ hZ => con_X10_walk g l _ _ _ _ rZ MZ hZ) cv_L_74 ok_0 ⟨by decide, by decide, by show c + 1 ≤ 600000; omega, by show s + 160 ≤ 7302250; omega⟩ dL_law_676 rfl rfl (Nat.le_of_ble_eq_true rfl) (fun r1 M1 => ?_)
  refine r_aload_n (pc := 679) ok 1 dL_law_679 rfl ?_
  refine r_aload_n (pc := 680) ok 3 dL_law_680 rfl ?_
  refine r_iload_n (pc := 681) ok 0 dL_law_681 rfl ?_
  refine r_iconst (pc := 682) ok 1 dL_law_682 (by decide) ?_
  refine r_iadd (pc := 683) ok dL_law_683 ?_
  refine r_sld (pc := 684) ok hX hbl hbA (k + 1) (ix_add 1 rfl (by omega) (by omega)) (by omega) dL_law_684 ?_
  refine r_aload_n (pc := 685) ok 3 dL_law_685 rfl ?_
  refine r_iload_n (pc := 686) ok 0 dL_law_686 rfl ?_
  refine r_iconst (pc := 687) ok 2 dL_law_687 (by decide) ?_
  refine r_iadd (pc := 688) ok dL_law_688 ?_
  refine r_sld (pc := 689) ok hX hbl hbA (k + 2) (ix_add 2 rfl (by omega) (by omega)) (by omega) dL_law_689 ?_
  refine r_aload_n (pc := 690) ok 3 dL_law_690 rfl ?_
  refine r_iload_n (pc := 691) ok 0 dL_law_691 rfl ?_
  refine r_iconst (pc := 692) ok 3 dL_law_692 (by decide) ?_
  refine r_iadd (pc := 693) ok dL_law_693 ?_
  refine r_sld (pc := 694) ok hX hbl hbA (k + 3) (ix_add 3 rfl (by omega) (by omega)) (by omega) dL_law_694 ?_
  refine r_callV (pc := 695) (K := 22) (i := 0) ok [.int (xs (k + 1)), .int (xs (k + 2)), .int (xs (k + 3))] [.int r1] (rmL 6) (fun rZ MZ hZ => con_X11_walk g l _ _ _ _ rZ MZ hZ) cv_L_77 ok_22 ⟨by decide, by decide, by show c + 1 ≤ 600000; omega, by show s + 160 ≤ 7302250; omega⟩ dL_law_695 rfl rfl (Nat.le_of_ble_eq_true rfl) (fun r2 M2 => ?_)
  exact r_icmp_eq (pc := 698) ok 1613 dL_law_698 (by decide) (fun _ => hJ M2) (fun _ => r_vac (fun res hr t h => by cases hr; exact absurd (show (0 : Int32) = 1 from h) (by decide)))
def lwC15 (xs : Nat → Int32) (k : Nat) (J : Mem → Option (Int32 × Mem)) (M : Mem) : Option (Int32 × Mem) :=
  ob (fX10_tread (xs (k + 1)) (xs (k + 2)) M) fun r1 M1 => ob (fX11_tread (xs (k + 1)) (xs (k + 2)) M1) fun r2 M2 => if r1 = r2 then J M2 else some (0, M2)
set_option maxRecDepth 20000 in
theorem sC15 {g : GP} {l : Launch} {x : CT} {b L k c s : Nat} {xs : Nat → Int32} (ok : Ok g l x RL cL_law 4 (some .boolean) room_1) (hX : va_X b L xs (cxS x) (cxS x).heap) (hbl : b < (cxS x).heap.size) (hbA : ¬ gU g b) (hL : L ≤ 3584) (hk : k + 7 ≤ L) (hc : c + 1 ≤ 600000) (hs : s + 160 ≤ 7302250) (J : Mem → Option (Int32 × Mem)) (hJ : ∀ M, Sw g l x (lwQ x) 4 (c + 1) (s + 160) 1613 (lvL g b k) [] M (J M)) (M : Mem) : Sw g l x (lwQ x) 4 c s 703 (lvL g b k) [] M (lwC15 xs k J M) := by
  unfold lwC15
  refine r_widen (c + 1) (s + 160) (by omega) (by omega) ?_
  refine r_aload_n (pc := 703) ok 2 dL_law_703 rfl ?_
  refine r_aload_n (pc := 704) ok 3 dL_law_704 rfl ?_
  refine r_iload_n (pc := 705) ok 0 dL_law_705 rfl ?_
  refine r_iconst (pc := 706) ok 1 dL_law_706 (by decide) ?_
  refine r_iadd (pc := 707) ok dL_law_707 ?_
  refine r_sld (pc := 708) ok hX hbl hbA (k + 1) (ix_add 1 rfl (by omega) (by omega)) (by omega) dL_law_708 ?_
  refine r_aload_n (pc := 709) ok 3 dL_law_709 rfl ?_
  refine r_iload_n (pc := 710) ok 0 dL_law_710 rfl ?_
  refine r_iconst (pc := 711) ok 2 dL_law_711 (by decide) ?_
  refine r_iadd (pc := 712) ok dL_law_712 ?_
  refine r_sld (pc := 713) ok hX hbl hbA (k + 2) (ix_add 2 rfl (by omega) (by omega)) (by omega) dL_law_713 ?_
  refine r_callV (pc := 714) (K := 0) (i := 0) ok [.int (xs (k + 1)), .int (xs (k + 2))] [] (rmL 7) (fun rZ MZ hZ => con_X10_tread g l _ _ _ rZ MZ hZ) cv_L_78 ok_0 ⟨by decide, by decide, by show c + 1 ≤ 600000; omega, by show s + 160 ≤ 7302250; omega⟩ dL_law_714 rfl rfl (Nat.le_of_ble_eq_true rfl) (fun r1 M1 => ?_)
  refine r_aload_n (pc := 717) ok 1 dL_law_717 rfl ?_
  refine r_aload_n (pc := 718) ok 3 dL_law_718 rfl ?_
  refine r_iload_n (pc := 719) ok 0 dL_law_719 rfl ?_
  refine r_iconst (pc := 720) ok 1 dL_law_720 (by decide) ?_
  refine r_iadd (pc := 721) ok dL_law_721 ?_
  refine r_sld (pc := 722) ok hX hbl hbA (k + 1) (ix_add 1 rfl (by omega) (by omega)) (by omega) dL_law_722 ?_
  refine r_aload_n (pc := 723) ok 3 dL_law_723 rfl ?_
  refine r_iload_n (pc := 724) ok 0 dL_law_724 rfl ?_
  refine r_iconst (pc := 725) ok 2 dL_law_725 (by decide) ?_
  refine r_iadd (pc := 726) ok dL_law_726 ?_
  refine r_sld (pc := 727) ok hX hbl hbA (k + 2) (ix_add 2 rfl (by omega) (by omega)) (by omega) dL_law_727 ?_
  refine r_callV (pc := 728) (K := 22) (i := 0) ok [.int (xs (k + 1)), .int (xs (k + 2))] [.int r1] (rmL 7) (fun rZ MZ hZ => con_X11_tread g l _ _ _ rZ MZ hZ) cv_L_81 ok_22 ⟨by decide, by decide, by show c + 1 ≤ 600000; omega, by show s + 160 ≤ 7302250; omega⟩ dL_law_728 rfl rfl (Nat.le_of_ble_eq_true rfl) (fun r2 M2 => ?_)
  exact r_icmp_eq (pc := 731) ok 1613 dL_law_731 (by decide) (fun _ => hJ M2) (fun _ => r_vac (fun res hr t h => by cases hr; exact absurd (show (0 : Int32) = 1 from h) (by decide)))
def lwC16 (xs : Nat → Int32) (k : Nat) (J : Mem → Option (Int32 × Mem)) (M : Mem) : Option (Int32 × Mem) :=
  ob (fX10_way (xs (k + 1)) (xs (k + 2)) (xs (k + 3)) (xs (k + 4)) M) fun r1 M1 => ob (fX11_way (xs (k + 1)) (xs (k + 2)) (xs (k + 3)) (xs (k + 4)) M1) fun r2 M2 => if r1 = r2 then J M2 else some (0, M2)
set_option maxRecDepth 20000 in
theorem sC16 {g : GP} {l : Launch} {x : CT} {b L k c s : Nat} {xs : Nat → Int32} (ok : Ok g l x RL cL_law 4 (some .boolean) room_1) (hX : va_X b L xs (cxS x) (cxS x).heap) (hbl : b < (cxS x).heap.size) (hbA : ¬ gU g b) (hL : L ≤ 3584) (hk : k + 7 ≤ L) (hc : c + 1 ≤ 600000) (hs : s + 160 ≤ 7302250) (J : Mem → Option (Int32 × Mem)) (hJ : ∀ M, Sw g l x (lwQ x) 4 (c + 1) (s + 160) 1613 (lvL g b k) [] M (J M)) (M : Mem) : Sw g l x (lwQ x) 4 c s 736 (lvL g b k) [] M (lwC16 xs k J M) := by
  unfold lwC16
  refine r_widen (c + 1) (s + 160) (by omega) (by omega) ?_
  refine r_aload_n (pc := 736) ok 2 dL_law_736 rfl ?_
  refine r_aload_n (pc := 737) ok 3 dL_law_737 rfl ?_
  refine r_iload_n (pc := 738) ok 0 dL_law_738 rfl ?_
  refine r_iconst (pc := 739) ok 1 dL_law_739 (by decide) ?_
  refine r_iadd (pc := 740) ok dL_law_740 ?_
  refine r_sld (pc := 741) ok hX hbl hbA (k + 1) (ix_add 1 rfl (by omega) (by omega)) (by omega) dL_law_741 ?_
  refine r_aload_n (pc := 742) ok 3 dL_law_742 rfl ?_
  refine r_iload_n (pc := 743) ok 0 dL_law_743 rfl ?_
  refine r_iconst (pc := 744) ok 2 dL_law_744 (by decide) ?_
  refine r_iadd (pc := 745) ok dL_law_745 ?_
  refine r_sld (pc := 746) ok hX hbl hbA (k + 2) (ix_add 2 rfl (by omega) (by omega)) (by omega) dL_law_746 ?_
  refine r_aload_n (pc := 747) ok 3 dL_law_747 rfl ?_
  refine r_iload_n (pc := 748) ok 0 dL_law_748 rfl ?_
  refine r_iconst (pc := 749) ok 3 dL_law_749 (by decide) ?_
  refine r_iadd (pc := 750) ok dL_law_750 ?_
  refine r_sld (pc := 751) ok hX hbl hbA (k + 3) (ix_add 3 rfl (by omega) (by omega)) (by omega) dL_law_751 ?_
  refine r_aload_n (pc := 752) ok 3 dL_law_752 rfl ?_
  refine r_iload_n (pc := 753) ok 0 dL_law_753 rfl ?_
  refine r_iconst (pc := 754) ok 4 dL_law_754 (by decide) ?_
  refine r_iadd (pc := 755) ok dL_law_755 ?_
  refine r_sld (pc := 756) ok hX hbl hbA (k + 4) (ix_add 4 rfl (by omega) (by omega)) (by omega) dL_law_756 ?_
  refine r_callV (pc := 757) (K := 0) (i := 0) ok [.int (xs (k + 1)), .int (xs (k + 2)), .int (xs (k + 3)), .int (xs (k + 4))] [] (rmL 8) (fun rZ MZ hZ => con_X10_way g l _ _ _ _ _ rZ MZ hZ) cv_L_82 ok_0 ⟨by decide, by decide, by show c + 1 ≤ 600000; omega, by show s + 160 ≤ 7302250; omega⟩ dL_law_757 rfl rfl (Nat.le_of_ble_eq_true rfl) (fun r1 M1 => ?_)
  refine r_aload_n (pc := 760) ok 1 dL_law_760 rfl ?_
  refine r_aload_n (pc := 761) ok 3 dL_law_761 rfl ?_
  refine r_iload_n (pc := 762) ok 0 dL_law_762 rfl ?_
  refine r_iconst (pc := 763) ok 1 dL_law_763 (by decide) ?_
  refine r_iadd (pc := 764) ok dL_law_764 ?_
  refine r_sld (pc := 765) ok hX hbl hbA (k + 1) (ix_add 1 rfl (by omega) (by omega)) (by omega) dL_law_765 ?_
  refine r_aload_n (pc := 766) ok 3 dL_law_766 rfl ?_
  refine r_iload_n (pc := 767) ok 0 dL_law_767 rfl ?_
  refine r_iconst (pc := 768) ok 2 dL_law_768 (by decide) ?_
  refine r_iadd (pc := 769) ok dL_law_769 ?_
  refine r_sld (pc := 770) ok hX hbl hbA (k + 2) (ix_add 2 rfl (by omega) (by omega)) (by omega) dL_law_770 ?_
  refine r_aload_n (pc := 771) ok 3 dL_law_771 rfl ?_
  refine r_iload_n (pc := 772) ok 0 dL_law_772 rfl ?_
  refine r_iconst (pc := 773) ok 3 dL_law_773 (by decide) ?_
  refine r_iadd (pc := 774) ok dL_law_774 ?_
  refine r_sld (pc := 775) ok hX hbl hbA (k + 3) (ix_add 3 rfl (by omega) (by omega)) (by omega) dL_law_775 ?_
  refine r_aload_n (pc := 776) ok 3 dL_law_776 rfl ?_
  refine r_iload_n (pc := 777) ok 0 dL_law_777 rfl ?_
  refine r_iconst (pc := 778) ok 4 dL_law_778 (by decide) ?_
  refine r_iadd (pc := 779) ok dL_law_779 ?_
  refine r_sld (pc := 780) ok hX hbl hbA (k + 4) (ix_add 4 rfl (by omega) (by omega)) (by omega) dL_law_780 ?_
  refine r_callV (pc := 781) (K := 22) (i := 0) ok [.int (xs (k + 1)), .int (xs (k + 2)), .int (xs (k + 3)), .int (xs (k + 4))] [.int r1] (rmL 6) (fun rZ MZ hZ => con_X11_way g l _ _ _ _ _ rZ MZ hZ) cv_L_86 ok_22 ⟨by decide, by decide, by show c + 1 ≤ 600000; omega, by show s + 160 ≤ 7302250; omega⟩ dL_law_781 rfl rfl (Nat.le_of_ble_eq_true rfl) (fun r2 M2 => ?_)
  exact r_icmp_eq (pc := 784) ok 1613 dL_law_784 (by decide) (fun _ => hJ M2) (fun _ => r_vac (fun res hr t h => by cases hr; exact absurd (show (0 : Int32) = 1 from h) (by decide)))
def lwC17 (xs : Nat → Int32) (k : Nat) (J : Mem → Option (Int32 × Mem)) (M : Mem) : Option (Int32 × Mem) :=
  ob (fX10_heap (xs (k + 1)) (xs (k + 2)) (xs (k + 3)) M) fun r1 M1 => ob (fX11_heap (xs (k + 1)) (xs (k + 2)) (xs (k + 3)) M1) fun r2 M2 => if lg_cmp r1 r2 = 0 then J M2 else some (0, M2)
set_option maxRecDepth 20000 in
theorem sC17 {g : GP} {l : Launch} {x : CT} {b L k c s : Nat} {xs : Nat → Int32} (ok : Ok g l x RL cL_law 4 (some .boolean) room_1) (hX : va_X b L xs (cxS x) (cxS x).heap) (hbl : b < (cxS x).heap.size) (hbA : ¬ gU g b) (hL : L ≤ 3584) (hk : k + 7 ≤ L) (hc : c + 1 ≤ 600000) (hs : s + 160 ≤ 7302250) (J : Mem → Option (Int32 × Mem)) (hJ : ∀ M, Sw g l x (lwQ x) 4 (c + 1) (s + 160) 1613 (lvL g b k) [] M (J M)) (M : Mem) : Sw g l x (lwQ x) 4 c s 789 (lvL g b k) [] M (lwC17 xs k J M) := by
  unfold lwC17
  refine r_widen (c + 1) (s + 160) (by omega) (by omega) ?_
  refine r_aload_n (pc := 789) ok 2 dL_law_789 rfl ?_
  refine r_aload_n (pc := 790) ok 3 dL_law_790 rfl ?_
  refine r_iload_n (pc := 791) ok 0 dL_law_791 rfl ?_
  refine r_iconst (pc := 792) ok 1 dL_law_792 (by decide) ?_
  refine r_iadd (pc := 793) ok dL_law_793 ?_
  refine r_sld (pc := 794) ok hX hbl hbA (k + 1) (ix_add 1 rfl (by omega) (by omega)) (by omega) dL_law_794 ?_
  refine r_aload_n (pc := 795) ok 3 dL_law_795 rfl ?_
  refine r_iload_n (pc := 796) ok 0 dL_law_796 rfl ?_
  refine r_iconst (pc := 797) ok 2 dL_law_797 (by decide) ?_
  refine r_iadd (pc := 798) ok dL_law_798 ?_
  refine r_sld (pc := 799) ok hX hbl hbA (k + 2) (ix_add 2 rfl (by omega) (by omega)) (by omega) dL_law_799 ?_
  refine r_aload_n (pc := 800) ok 3 dL_law_800 rfl ?_
  refine r_iload_n (pc := 801) ok 0 dL_law_801 rfl ?_
  refine r_iconst (pc := 802) ok 3 dL_law_802 (by decide) ?_
  refine r_iadd (pc := 803) ok dL_law_803 ?_
  refine r_sld (pc := 804) ok hX hbl hbA (k + 3) (ix_add 3 rfl (by omega) (by omega)) (by omega) dL_law_804 ?_
  refine r_callV (pc := 805) (K := 0) (i := 0) ok [.int (xs (k + 1)), .int (xs (k + 2)), .int (xs (k + 3))] [] (rmL 4) (fun rZ MZ hZ => con_X10_heap g l _ _ _ _ rZ MZ hZ) cv_L_87 ok_0 ⟨by decide, by decide, by show c + 1 ≤ 600000; omega, by show s + 160 ≤ 7302250; omega⟩ dL_law_805 rfl rfl (Nat.le_of_ble_eq_true rfl) (fun r1 M1 => ?_)
  refine r_aload_n (pc := 808) ok 1 dL_law_808 rfl ?_
  refine r_aload_n (pc := 809) ok 3 dL_law_809 rfl ?_
  refine r_iload_n (pc := 810) ok 0 dL_law_810 rfl ?_
  refine r_iconst (pc := 811) ok 1 dL_law_811 (by decide) ?_
  refine r_iadd (pc := 812) ok dL_law_812 ?_
  refine r_sld (pc := 813) ok hX hbl hbA (k + 1) (ix_add 1 rfl (by omega) (by omega)) (by omega) dL_law_813 ?_
  refine r_aload_n (pc := 814) ok 3 dL_law_814 rfl ?_
  refine r_iload_n (pc := 815) ok 0 dL_law_815 rfl ?_
  refine r_iconst (pc := 816) ok 2 dL_law_816 (by decide) ?_
  refine r_iadd (pc := 817) ok dL_law_817 ?_
  refine r_sld (pc := 818) ok hX hbl hbA (k + 2) (ix_add 2 rfl (by omega) (by omega)) (by omega) dL_law_818 ?_
  refine r_aload_n (pc := 819) ok 3 dL_law_819 rfl ?_
  refine r_iload_n (pc := 820) ok 0 dL_law_820 rfl ?_
  refine r_iconst (pc := 821) ok 3 dL_law_821 (by decide) ?_
  refine r_iadd (pc := 822) ok dL_law_822 ?_
  refine r_sld (pc := 823) ok hX hbl hbA (k + 3) (ix_add 3 rfl (by omega) (by omega)) (by omega) dL_law_823 ?_
  refine r_callV (pc := 824) (K := 22) (i := 0) ok [.int (xs (k + 1)), .int (xs (k + 2)), .int (xs (k + 3))] [.long r1] (rmL 5) (fun rZ MZ hZ => con_X11_heap g l _ _ _ _ rZ MZ hZ) cv_L_91 ok_22 ⟨by decide, by decide, by show c + 1 ≤ 600000; omega, by show s + 160 ≤ 7302250; omega⟩ dL_law_824 rfl rfl (Nat.le_of_ble_eq_true rfl) (fun r2 M2 => ?_)
  refine r_lcmp (pc := 827) ok dL_law_827 ?_
  exact r_if_eq (pc := 828) ok 1613 dL_law_828 (by decide) (fun _ => hJ M2) (fun _ => r_vac (fun res hr t h => by cases hr; exact absurd (show (0 : Int32) = 1 from h) (by decide)))
def lwC18 (xs : Nat → Int32) (k : Nat) (J : Mem → Option (Int32 × Mem)) (M : Mem) : Option (Int32 × Mem) :=
  ob (fX10_room (xs (k + 1)) (xs (k + 2)) M) fun r1 M1 => ob (fX11_room (xs (k + 1)) (xs (k + 2)) M1) fun r2 M2 => if r1 = r2 then J M2 else some (0, M2)
set_option maxRecDepth 20000 in
theorem sC18 {g : GP} {l : Launch} {x : CT} {b L k c s : Nat} {xs : Nat → Int32} (ok : Ok g l x RL cL_law 4 (some .boolean) room_1) (hX : va_X b L xs (cxS x) (cxS x).heap) (hbl : b < (cxS x).heap.size) (hbA : ¬ gU g b) (hL : L ≤ 3584) (hk : k + 7 ≤ L) (hc : c + 1 ≤ 600000) (hs : s + 160 ≤ 7302250) (J : Mem → Option (Int32 × Mem)) (hJ : ∀ M, Sw g l x (lwQ x) 4 (c + 1) (s + 160) 1613 (lvL g b k) [] M (J M)) (M : Mem) : Sw g l x (lwQ x) 4 c s 833 (lvL g b k) [] M (lwC18 xs k J M) := by
  unfold lwC18
  refine r_widen (c + 1) (s + 160) (by omega) (by omega) ?_
  refine r_aload_n (pc := 833) ok 2 dL_law_833 rfl ?_
  refine r_aload_n (pc := 834) ok 3 dL_law_834 rfl ?_
  refine r_iload_n (pc := 835) ok 0 dL_law_835 rfl ?_
  refine r_iconst (pc := 836) ok 1 dL_law_836 (by decide) ?_
  refine r_iadd (pc := 837) ok dL_law_837 ?_
  refine r_sld (pc := 838) ok hX hbl hbA (k + 1) (ix_add 1 rfl (by omega) (by omega)) (by omega) dL_law_838 ?_
  refine r_aload_n (pc := 839) ok 3 dL_law_839 rfl ?_
  refine r_iload_n (pc := 840) ok 0 dL_law_840 rfl ?_
  refine r_iconst (pc := 841) ok 2 dL_law_841 (by decide) ?_
  refine r_iadd (pc := 842) ok dL_law_842 ?_
  refine r_sld (pc := 843) ok hX hbl hbA (k + 2) (ix_add 2 rfl (by omega) (by omega)) (by omega) dL_law_843 ?_
  refine r_callV (pc := 844) (K := 0) (i := 0) ok [.int (xs (k + 1)), .int (xs (k + 2))] [] (rmL 5) (fun rZ MZ hZ => con_X10_room g l _ _ _ rZ MZ hZ) cv_L_92 ok_0 ⟨by decide, by decide, by show c + 1 ≤ 600000; omega, by show s + 160 ≤ 7302250; omega⟩ dL_law_844 rfl rfl (Nat.le_of_ble_eq_true rfl) (fun r1 M1 => ?_)
  refine r_aload_n (pc := 847) ok 1 dL_law_847 rfl ?_
  refine r_aload_n (pc := 848) ok 3 dL_law_848 rfl ?_
  refine r_iload_n (pc := 849) ok 0 dL_law_849 rfl ?_
  refine r_iconst (pc := 850) ok 1 dL_law_850 (by decide) ?_
  refine r_iadd (pc := 851) ok dL_law_851 ?_
  refine r_sld (pc := 852) ok hX hbl hbA (k + 1) (ix_add 1 rfl (by omega) (by omega)) (by omega) dL_law_852 ?_
  refine r_aload_n (pc := 853) ok 3 dL_law_853 rfl ?_
  refine r_iload_n (pc := 854) ok 0 dL_law_854 rfl ?_
  refine r_iconst (pc := 855) ok 2 dL_law_855 (by decide) ?_
  refine r_iadd (pc := 856) ok dL_law_856 ?_
  refine r_sld (pc := 857) ok hX hbl hbA (k + 2) (ix_add 2 rfl (by omega) (by omega)) (by omega) dL_law_857 ?_
  refine r_callV (pc := 858) (K := 22) (i := 0) ok [.int (xs (k + 1)), .int (xs (k + 2))] [.int r1] (rmL 6) (fun rZ MZ hZ => con_X11_room g l _ _ _ rZ MZ hZ) cv_L_95 ok_22 ⟨by decide, by decide, by show c + 1 ≤ 600000; omega, by show s + 160 ≤ 7302250; omega⟩ dL_law_858 rfl rfl (Nat.le_of_ble_eq_true rfl) (fun r2 M2 => ?_)
  exact r_icmp_eq (pc := 861) ok 1613 dL_law_861 (by decide) (fun _ => hJ M2) (fun _ => r_vac (fun res hr t h => by cases hr; exact absurd (show (0 : Int32) = 1 from h) (by decide)))
def lwC19 (xs : Nat → Int32) (k : Nat) (J : Mem → Option (Int32 × Mem)) (M : Mem) : Option (Int32 × Mem) :=
  ob (fX10_turn (xs (k + 1)) (xs (k + 2)) M) fun r1 M1 => ob (fX11_turn (xs (k + 1)) (xs (k + 2)) M1) fun r2 M2 => if r1 = r2 then J M2 else some (0, M2)
set_option maxRecDepth 20000 in
theorem sC19 {g : GP} {l : Launch} {x : CT} {b L k c s : Nat} {xs : Nat → Int32} (ok : Ok g l x RL cL_law 4 (some .boolean) room_1) (hX : va_X b L xs (cxS x) (cxS x).heap) (hbl : b < (cxS x).heap.size) (hbA : ¬ gU g b) (hL : L ≤ 3584) (hk : k + 7 ≤ L) (hc : c + 1 ≤ 600000) (hs : s + 160 ≤ 7302250) (J : Mem → Option (Int32 × Mem)) (hJ : ∀ M, Sw g l x (lwQ x) 4 (c + 1) (s + 160) 1613 (lvL g b k) [] M (J M)) (M : Mem) : Sw g l x (lwQ x) 4 c s 866 (lvL g b k) [] M (lwC19 xs k J M) := by
  unfold lwC19
  refine r_widen (c + 1) (s + 160) (by omega) (by omega) ?_
  refine r_aload_n (pc := 866) ok 2 dL_law_866 rfl ?_
  refine r_aload_n (pc := 867) ok 3 dL_law_867 rfl ?_
  refine r_iload_n (pc := 868) ok 0 dL_law_868 rfl ?_
  refine r_iconst (pc := 869) ok 1 dL_law_869 (by decide) ?_
  refine r_iadd (pc := 870) ok dL_law_870 ?_
  refine r_sld (pc := 871) ok hX hbl hbA (k + 1) (ix_add 1 rfl (by omega) (by omega)) (by omega) dL_law_871 ?_
  refine r_aload_n (pc := 872) ok 3 dL_law_872 rfl ?_
  refine r_iload_n (pc := 873) ok 0 dL_law_873 rfl ?_
  refine r_iconst (pc := 874) ok 2 dL_law_874 (by decide) ?_
  refine r_iadd (pc := 875) ok dL_law_875 ?_
  refine r_sld (pc := 876) ok hX hbl hbA (k + 2) (ix_add 2 rfl (by omega) (by omega)) (by omega) dL_law_876 ?_
  refine r_callV (pc := 877) (K := 0) (i := 0) ok [.int (xs (k + 1)), .int (xs (k + 2))] [] (rmL 9) (fun rZ MZ hZ => con_X10_turn g l _ _ _ rZ MZ hZ) cv_L_96 ok_0 ⟨by decide, by decide, by show c + 1 ≤ 600000; omega, by show s + 160 ≤ 7302250; omega⟩ dL_law_877 rfl rfl (Nat.le_of_ble_eq_true rfl) (fun r1 M1 => ?_)
  refine r_aload_n (pc := 880) ok 1 dL_law_880 rfl ?_
  refine r_aload_n (pc := 881) ok 3 dL_law_881 rfl ?_
  refine r_iload_n (pc := 882) ok 0 dL_law_882 rfl ?_
  refine r_iconst (pc := 883) ok 1 dL_law_883 (by decide) ?_
  refine r_iadd (pc := 884) ok dL_law_884 ?_
  refine r_sld (pc := 885) ok hX hbl hbA (k + 1) (ix_add 1 rfl (by omega) (by omega)) (by omega) dL_law_885 ?_
  refine r_aload_n (pc := 886) ok 3 dL_law_886 rfl ?_
  refine r_iload_n (pc := 887) ok 0 dL_law_887 rfl ?_
  refine r_iconst (pc := 888) ok 2 dL_law_888 (by decide) ?_
  refine r_iadd (pc := 889) ok dL_law_889 ?_
  refine r_sld (pc := 890) ok hX hbl hbA (k + 2) (ix_add 2 rfl (by omega) (by omega)) (by omega) dL_law_890 ?_
  refine r_callV (pc := 891) (K := 22) (i := 0) ok [.int (xs (k + 1)), .int (xs (k + 2))] [.int r1] (rmL 8) (fun rZ MZ hZ => con_X11_turn g l _ _ _ rZ MZ hZ) cv_L_99 ok_22 ⟨by decide, by decide, by show c + 1 ≤ 600000; omega, by show s + 160 ≤ 7302250; omega⟩ dL_law_891 rfl rfl (Nat.le_of_ble_eq_true rfl) (fun r2 M2 => ?_)
  exact r_icmp_eq (pc := 894) ok 1613 dL_law_894 (by decide) (fun _ => hJ M2) (fun _ => r_vac (fun res hr t h => by cases hr; exact absurd (show (0 : Int32) = 1 from h) (by decide)))
def lwC20 (xs : Nat → Int32) (k : Nat) (J : Mem → Option (Int32 × Mem)) (M : Mem) : Option (Int32 × Mem) :=
  ob (fX10_seats (xs (k + 1)) (xs (k + 2)) (xs (k + 3)) M) fun r1 M1 => ob (fX11_seats (xs (k + 1)) (xs (k + 2)) (xs (k + 3)) M1) fun r2 M2 => if r1 = r2 then J M2 else some (0, M2)
set_option maxRecDepth 20000 in
theorem sC20 {g : GP} {l : Launch} {x : CT} {b L k c s : Nat} {xs : Nat → Int32} (ok : Ok g l x RL cL_law 4 (some .boolean) room_1) (hX : va_X b L xs (cxS x) (cxS x).heap) (hbl : b < (cxS x).heap.size) (hbA : ¬ gU g b) (hL : L ≤ 3584) (hk : k + 7 ≤ L) (hc : c + 1 ≤ 600000) (hs : s + 160 ≤ 7302250) (J : Mem → Option (Int32 × Mem)) (hJ : ∀ M, Sw g l x (lwQ x) 4 (c + 1) (s + 160) 1613 (lvL g b k) [] M (J M)) (M : Mem) : Sw g l x (lwQ x) 4 c s 899 (lvL g b k) [] M (lwC20 xs k J M) := by
  unfold lwC20
  refine r_widen (c + 1) (s + 160) (by omega) (by omega) ?_
  refine r_aload_n (pc := 899) ok 2 dL_law_899 rfl ?_
  refine r_aload_n (pc := 900) ok 3 dL_law_900 rfl ?_
  refine r_iload_n (pc := 901) ok 0 dL_law_901 rfl ?_
  refine r_iconst (pc := 902) ok 1 dL_law_902 (by decide) ?_
  refine r_iadd (pc := 903) ok dL_law_903 ?_
  refine r_sld (pc := 904) ok hX hbl hbA (k + 1) (ix_add 1 rfl (by omega) (by omega)) (by omega) dL_law_904 ?_
  refine r_aload_n (pc := 905) ok 3 dL_law_905 rfl ?_
  refine r_iload_n (pc := 906) ok 0 dL_law_906 rfl ?_
  refine r_iconst (pc := 907) ok 2 dL_law_907 (by decide) ?_
  refine r_iadd (pc := 908) ok dL_law_908 ?_
  refine r_sld (pc := 909) ok hX hbl hbA (k + 2) (ix_add 2 rfl (by omega) (by omega)) (by omega) dL_law_909 ?_
  refine r_aload_n (pc := 910) ok 3 dL_law_910 rfl ?_
  refine r_iload_n (pc := 911) ok 0 dL_law_911 rfl ?_
  refine r_iconst (pc := 912) ok 3 dL_law_912 (by decide) ?_
  refine r_iadd (pc := 913) ok dL_law_913 ?_
  refine r_sld (pc := 914) ok hX hbl hbA (k + 3) (ix_add 3 rfl (by omega) (by omega)) (by omega) dL_law_914 ?_
  refine r_callV (pc := 915) (K := 0) (i := 0) ok [.int (xs (k + 1)), .int (xs (k + 2)), .int (xs (k + 3))] [] (rmL 9) (fun rZ MZ hZ => con_X10_seats g l _ _ _ _ rZ MZ hZ) cv_L_100 ok_0 ⟨by decide, by decide, by show c + 1 ≤ 600000; omega, by show s + 160 ≤ 7302250; omega⟩ dL_law_915 rfl rfl (Nat.le_of_ble_eq_true rfl) (fun r1 M1 => ?_)
  refine r_aload_n (pc := 918) ok 1 dL_law_918 rfl ?_
  refine r_aload_n (pc := 919) ok 3 dL_law_919 rfl ?_
  refine r_iload_n (pc := 920) ok 0 dL_law_920 rfl ?_
  refine r_iconst (pc := 921) ok 1 dL_law_921 (by decide) ?_
  refine r_iadd (pc := 922) ok dL_law_922 ?_
  refine r_sld (pc := 923) ok hX hbl hbA (k + 1) (ix_add 1 rfl (by omega) (by omega)) (by omega) dL_law_923 ?_
  refine r_aload_n (pc := 924) ok 3 dL_law_924 rfl ?_
  refine r_iload_n (pc := 925) ok 0 dL_law_925 rfl ?_
  refine r_iconst (pc := 926) ok 2 dL_law_926 (by decide) ?_
  refine r_iadd (pc := 927) ok dL_law_927 ?_
  refine r_sld (pc := 928) ok hX hbl hbA (k + 2) (ix_add 2 rfl (by omega) (by omega)) (by omega) dL_law_928 ?_
  refine r_aload_n (pc := 929) ok 3 dL_law_929 rfl ?_
  refine r_iload_n (pc := 930) ok 0 dL_law_930 rfl ?_
  refine r_iconst (pc := 931) ok 3 dL_law_931 (by decide) ?_
  refine r_iadd (pc := 932) ok dL_law_932 ?_
  refine r_sld (pc := 933) ok hX hbl hbA (k + 3) (ix_add 3 rfl (by omega) (by omega)) (by omega) dL_law_933 ?_
  refine r_callV (pc := 934) (K := 22) (i := 0) ok [.int (xs (k + 1)), .int (xs (k + 2)), .int (xs (k + 3))] [.int r1] (rmL 8) (fun rZ MZ hZ => con_X11_seats g l _ _ _ _ rZ MZ hZ) cv_L_103 ok_22 ⟨by decide, by decide, by show c + 1 ≤ 600000; omega, by show s + 160 ≤ 7302250; omega⟩ dL_law_934 rfl rfl (Nat.le_of_ble_eq_true rfl) (fun r2 M2 => ?_)
  exact r_icmp_eq (pc := 937) ok 1613 dL_law_937 (by decide) (fun _ => hJ M2) (fun _ => r_vac (fun res hr t h => by cases hr; exact absurd (show (0 : Int32) = 1 from h) (by decide)))
def lwC21 (xs : Nat → Int32) (k : Nat) (J : Mem → Option (Int32 × Mem)) (M : Mem) : Option (Int32 × Mem) :=
  ob (fX10_judge (xs (k + 1)) (xs (k + 2)) M) fun r1 M1 => ob (fX11_judge (xs (k + 1)) (xs (k + 2)) M1) fun r2 M2 => if r1 = r2 then J M2 else some (0, M2)
set_option maxRecDepth 20000 in
theorem sC21 {g : GP} {l : Launch} {x : CT} {b L k c s : Nat} {xs : Nat → Int32} (ok : Ok g l x RL cL_law 4 (some .boolean) room_1) (hX : va_X b L xs (cxS x) (cxS x).heap) (hbl : b < (cxS x).heap.size) (hbA : ¬ gU g b) (hL : L ≤ 3584) (hk : k + 7 ≤ L) (hc : c + 1 ≤ 600000) (hs : s + 160 ≤ 7302250) (J : Mem → Option (Int32 × Mem)) (hJ : ∀ M, Sw g l x (lwQ x) 4 (c + 1) (s + 160) 1613 (lvL g b k) [] M (J M)) (M : Mem) : Sw g l x (lwQ x) 4 c s 942 (lvL g b k) [] M (lwC21 xs k J M) := by
  unfold lwC21
  refine r_widen (c + 1) (s + 160) (by omega) (by omega) ?_
  refine r_aload_n (pc := 942) ok 2 dL_law_942 rfl ?_
  refine r_aload_n (pc := 943) ok 3 dL_law_943 rfl ?_
  refine r_iload_n (pc := 944) ok 0 dL_law_944 rfl ?_
  refine r_iconst (pc := 945) ok 1 dL_law_945 (by decide) ?_
  refine r_iadd (pc := 946) ok dL_law_946 ?_
  refine r_sld (pc := 947) ok hX hbl hbA (k + 1) (ix_add 1 rfl (by omega) (by omega)) (by omega) dL_law_947 ?_
  refine r_aload_n (pc := 948) ok 3 dL_law_948 rfl ?_
  refine r_iload_n (pc := 949) ok 0 dL_law_949 rfl ?_
  refine r_iconst (pc := 950) ok 2 dL_law_950 (by decide) ?_
  refine r_iadd (pc := 951) ok dL_law_951 ?_
  refine r_sld (pc := 952) ok hX hbl hbA (k + 2) (ix_add 2 rfl (by omega) (by omega)) (by omega) dL_law_952 ?_
  refine r_callV (pc := 953) (K := 0) (i := 0) ok [.int (xs (k + 1)), .int (xs (k + 2))] [] (rmL 9) (fun rZ MZ hZ => con_X10_judge g l _ _ _ rZ MZ hZ) cv_L_104 ok_0 ⟨by decide, by decide, by show c + 1 ≤ 600000; omega, by show s + 160 ≤ 7302250; omega⟩ dL_law_953 rfl rfl (Nat.le_of_ble_eq_true rfl) (fun r1 M1 => ?_)
  refine r_aload_n (pc := 956) ok 1 dL_law_956 rfl ?_
  refine r_aload_n (pc := 957) ok 3 dL_law_957 rfl ?_
  refine r_iload_n (pc := 958) ok 0 dL_law_958 rfl ?_
  refine r_iconst (pc := 959) ok 1 dL_law_959 (by decide) ?_
  refine r_iadd (pc := 960) ok dL_law_960 ?_
  refine r_sld (pc := 961) ok hX hbl hbA (k + 1) (ix_add 1 rfl (by omega) (by omega)) (by omega) dL_law_961 ?_
  refine r_aload_n (pc := 962) ok 3 dL_law_962 rfl ?_
  refine r_iload_n (pc := 963) ok 0 dL_law_963 rfl ?_
  refine r_iconst (pc := 964) ok 2 dL_law_964 (by decide) ?_
  refine r_iadd (pc := 965) ok dL_law_965 ?_
  refine r_sld (pc := 966) ok hX hbl hbA (k + 2) (ix_add 2 rfl (by omega) (by omega)) (by omega) dL_law_966 ?_
  refine r_callV (pc := 967) (K := 22) (i := 0) ok [.int (xs (k + 1)), .int (xs (k + 2))] [.int r1] (rmL 8) (fun rZ MZ hZ => con_X11_judge g l _ _ _ rZ MZ hZ) cv_L_107 ok_22 ⟨by decide, by decide, by show c + 1 ≤ 600000; omega, by show s + 160 ≤ 7302250; omega⟩ dL_law_967 rfl rfl (Nat.le_of_ble_eq_true rfl) (fun r2 M2 => ?_)
  exact r_icmp_eq (pc := 970) ok 1613 dL_law_970 (by decide) (fun _ => hJ M2) (fun _ => r_vac (fun res hr t h => by cases hr; exact absurd (show (0 : Int32) = 1 from h) (by decide)))
def lwC22 (xs : Nat → Int32) (k : Nat) (J : Mem → Option (Int32 × Mem)) (M : Mem) : Option (Int32 × Mem) :=
  ob (fX10_kinds (xs (k + 1)) (xs (k + 2)) (xs (k + 3)) (xs (k + 4)) M) fun r1 M1 => ob (fX11_kinds (xs (k + 1)) (xs (k + 2)) (xs (k + 3)) (xs (k + 4)) M1) fun r2 M2 => if r1 = r2 then J M2 else some (0, M2)
set_option maxRecDepth 20000 in
theorem sC22 {g : GP} {l : Launch} {x : CT} {b L k c s : Nat} {xs : Nat → Int32} (ok : Ok g l x RL cL_law 4 (some .boolean) room_1) (hX : va_X b L xs (cxS x) (cxS x).heap) (hbl : b < (cxS x).heap.size) (hbA : ¬ gU g b) (hL : L ≤ 3584) (hk : k + 7 ≤ L) (hc : c + 1 ≤ 600000) (hs : s + 160 ≤ 7302250) (J : Mem → Option (Int32 × Mem)) (hJ : ∀ M, Sw g l x (lwQ x) 4 (c + 1) (s + 160) 1613 (lvL g b k) [] M (J M)) (M : Mem) : Sw g l x (lwQ x) 4 c s 975 (lvL g b k) [] M (lwC22 xs k J M) := by
  unfold lwC22
  refine r_widen (c + 1) (s + 160) (by omega) (by omega) ?_
  refine r_aload_n (pc := 975) ok 2 dL_law_975 rfl ?_
  refine r_aload_n (pc := 976) ok 3 dL_law_976 rfl ?_
  refine r_iload_n (pc := 977) ok 0 dL_law_977 rfl ?_
  refine r_iconst (pc := 978) ok 1 dL_law_978 (by decide) ?_
  refine r_iadd (pc := 979) ok dL_law_979 ?_
  refine r_sld (pc := 980) ok hX hbl hbA (k + 1) (ix_add 1 rfl (by omega) (by omega)) (by omega) dL_law_980 ?_
  refine r_aload_n (pc := 981) ok 3 dL_law_981 rfl ?_
  refine r_iload_n (pc := 982) ok 0 dL_law_982 rfl ?_
  refine r_iconst (pc := 983) ok 2 dL_law_983 (by decide) ?_
  refine r_iadd (pc := 984) ok dL_law_984 ?_
  refine r_sld (pc := 985) ok hX hbl hbA (k + 2) (ix_add 2 rfl (by omega) (by omega)) (by omega) dL_law_985 ?_
  refine r_aload_n (pc := 986) ok 3 dL_law_986 rfl ?_
  refine r_iload_n (pc := 987) ok 0 dL_law_987 rfl ?_
  refine r_iconst (pc := 988) ok 3 dL_law_988 (by decide) ?_
  refine r_iadd (pc := 989) ok dL_law_989 ?_
  refine r_sld (pc := 990) ok hX hbl hbA (k + 3) (ix_add 3 rfl (by omega) (by omega)) (by omega) dL_law_990 ?_
  refine r_aload_n (pc := 991) ok 3 dL_law_991 rfl ?_
  refine r_iload_n (pc := 992) ok 0 dL_law_992 rfl ?_
  refine r_iconst (pc := 993) ok 4 dL_law_993 (by decide) ?_
  refine r_iadd (pc := 994) ok dL_law_994 ?_
  refine r_sld (pc := 995) ok hX hbl hbA (k + 4) (ix_add 4 rfl (by omega) (by omega)) (by omega) dL_law_995 ?_
  refine r_callV (pc := 996) (K := 0) (i := 0) ok [.int (xs (k + 1)), .int (xs (k + 2)), .int (xs (k + 3)), .int (xs (k + 4))] [] (rmL 10) (fun rZ MZ hZ => con_X10_kinds g l _ _ _ _ _ rZ MZ hZ) cv_L_108 ok_0 ⟨by decide, by decide, by show c + 1 ≤ 600000; omega, by show s + 160 ≤ 7302250; omega⟩ dL_law_996 rfl rfl (Nat.le_of_ble_eq_true rfl) (fun r1 M1 => ?_)
  refine r_aload_n (pc := 999) ok 1 dL_law_999 rfl ?_
  refine r_aload_n (pc := 1000) ok 3 dL_law_1000 rfl ?_
  refine r_iload_n (pc := 1001) ok 0 dL_law_1001 rfl ?_
  refine r_iconst (pc := 1002) ok 1 dL_law_1002 (by decide) ?_
  refine r_iadd (pc := 1003) ok dL_law_1003 ?_
  refine r_sld (pc := 1004) ok hX hbl hbA (k + 1) (ix_add 1 rfl (by omega) (by omega)) (by omega) dL_law_1004 ?_
  refine r_aload_n (pc := 1005) ok 3 dL_law_1005 rfl ?_
  refine r_iload_n (pc := 1006) ok 0 dL_law_1006 rfl ?_
  refine r_iconst (pc := 1007) ok 2 dL_law_1007 (by decide) ?_
  refine r_iadd (pc := 1008) ok dL_law_1008 ?_
  refine r_sld (pc := 1009) ok hX hbl hbA (k + 2) (ix_add 2 rfl (by omega) (by omega)) (by omega) dL_law_1009 ?_
  refine r_aload_n (pc := 1010) ok 3 dL_law_1010 rfl ?_
  refine r_iload_n (pc := 1011) ok 0 dL_law_1011 rfl ?_
  refine r_iconst (pc := 1012) ok 3 dL_law_1012 (by decide) ?_
  refine r_iadd (pc := 1013) ok dL_law_1013 ?_
  refine r_sld (pc := 1014) ok hX hbl hbA (k + 3) (ix_add 3 rfl (by omega) (by omega)) (by omega) dL_law_1014 ?_
  refine r_aload_n (pc := 1015) ok 3 dL_law_1015 rfl ?_
  refine r_iload_n (pc := 1016) ok 0 dL_law_1016 rfl ?_
  refine r_iconst (pc := 1017) ok 4 dL_law_1017 (by decide) ?_
  refine r_iadd (pc := 1018) ok dL_law_1018 ?_
  refine r_sld (pc := 1019) ok hX hbl hbA (k + 4) (ix_add 4 rfl (by omega) (by omega)) (by omega) dL_law_1019 ?_
  refine r_callV (pc := 1020) (K := 22) (i := 0) ok [.int (xs (k + 1)), .int (xs (k + 2)), .int (xs (k + 3)), .int (xs (k + 4))] [.int r1] (rmL 8) (fun rZ MZ hZ => con_X11_kinds g l _ _ _ _ _ rZ MZ hZ) cv_L_111 ok_22 ⟨by decide, by decide, by show c + 1 ≤ 600000; omega, by show s + 160 ≤ 7302250; omega⟩ dL_law_1020 rfl rfl (Nat.le_of_ble_eq_true rfl) (fun r2 M2 => ?_)
  exact r_icmp_eq (pc := 1023) ok 1613 dL_law_1023 (by decide) (fun _ => hJ M2) (fun _ => r_vac (fun res hr t h => by cases hr; exact absurd (show (0 : Int32) = 1 from h) (by decide)))
def lwC23 (xs : Nat → Int32) (k : Nat) (J : Mem → Option (Int32 × Mem)) (M : Mem) : Option (Int32 × Mem) :=
  ob (fX10_where (xs (k + 1)) (xs (k + 2)) (xs (k + 3)) M) fun r1 M1 => ob (fX11_where (xs (k + 1)) (xs (k + 2)) (xs (k + 3)) M1) fun r2 M2 => if lg_cmp r1 r2 = 0 then J M2 else some (0, M2)
set_option maxRecDepth 20000 in
theorem sC23 {g : GP} {l : Launch} {x : CT} {b L k c s : Nat} {xs : Nat → Int32} (ok : Ok g l x RL cL_law 4 (some .boolean) room_1) (hX : va_X b L xs (cxS x) (cxS x).heap) (hbl : b < (cxS x).heap.size) (hbA : ¬ gU g b) (hL : L ≤ 3584) (hk : k + 7 ≤ L) (hc : c + 1 ≤ 600000) (hs : s + 160 ≤ 7302250) (J : Mem → Option (Int32 × Mem)) (hJ : ∀ M, Sw g l x (lwQ x) 4 (c + 1) (s + 160) 1613 (lvL g b k) [] M (J M)) (M : Mem) : Sw g l x (lwQ x) 4 c s 1028 (lvL g b k) [] M (lwC23 xs k J M) := by
  unfold lwC23
  refine r_widen (c + 1) (s + 160) (by omega) (by omega) ?_
  refine r_aload_n (pc := 1028) ok 2 dL_law_1028 rfl ?_
  refine r_aload_n (pc := 1029) ok 3 dL_law_1029 rfl ?_
  refine r_iload_n (pc := 1030) ok 0 dL_law_1030 rfl ?_
  refine r_iconst (pc := 1031) ok 1 dL_law_1031 (by decide) ?_
  refine r_iadd (pc := 1032) ok dL_law_1032 ?_
  refine r_sld (pc := 1033) ok hX hbl hbA (k + 1) (ix_add 1 rfl (by omega) (by omega)) (by omega) dL_law_1033 ?_
  refine r_aload_n (pc := 1034) ok 3 dL_law_1034 rfl ?_
  refine r_iload_n (pc := 1035) ok 0 dL_law_1035 rfl ?_
  refine r_iconst (pc := 1036) ok 2 dL_law_1036 (by decide) ?_
  refine r_iadd (pc := 1037) ok dL_law_1037 ?_
  refine r_sld (pc := 1038) ok hX hbl hbA (k + 2) (ix_add 2 rfl (by omega) (by omega)) (by omega) dL_law_1038 ?_
  refine r_aload_n (pc := 1039) ok 3 dL_law_1039 rfl ?_
  refine r_iload_n (pc := 1040) ok 0 dL_law_1040 rfl ?_
  refine r_iconst (pc := 1041) ok 3 dL_law_1041 (by decide) ?_
  refine r_iadd (pc := 1042) ok dL_law_1042 ?_
  refine r_sld (pc := 1043) ok hX hbl hbA (k + 3) (ix_add 3 rfl (by omega) (by omega)) (by omega) dL_law_1043 ?_
  refine r_callV (pc := 1044) (K := 0) (i := 0) ok [.int (xs (k + 1)), .int (xs (k + 2)), .int (xs (k + 3))] [] (rmL 10) (fun rZ MZ hZ => con_X10_where g l _ _ _ _ rZ MZ hZ) cv_L_112 ok_0 ⟨by decide, by decide, by show c + 1 ≤ 600000; omega, by show s + 160 ≤ 7302250; omega⟩ dL_law_1044 rfl rfl (Nat.le_of_ble_eq_true rfl) (fun r1 M1 => ?_)
  refine r_aload_n (pc := 1047) ok 1 dL_law_1047 rfl ?_
  refine r_aload_n (pc := 1048) ok 3 dL_law_1048 rfl ?_
  refine r_iload_n (pc := 1049) ok 0 dL_law_1049 rfl ?_
  refine r_iconst (pc := 1050) ok 1 dL_law_1050 (by decide) ?_
  refine r_iadd (pc := 1051) ok dL_law_1051 ?_
  refine r_sld (pc := 1052) ok hX hbl hbA (k + 1) (ix_add 1 rfl (by omega) (by omega)) (by omega) dL_law_1052 ?_
  refine r_aload_n (pc := 1053) ok 3 dL_law_1053 rfl ?_
  refine r_iload_n (pc := 1054) ok 0 dL_law_1054 rfl ?_
  refine r_iconst (pc := 1055) ok 2 dL_law_1055 (by decide) ?_
  refine r_iadd (pc := 1056) ok dL_law_1056 ?_
  refine r_sld (pc := 1057) ok hX hbl hbA (k + 2) (ix_add 2 rfl (by omega) (by omega)) (by omega) dL_law_1057 ?_
  refine r_aload_n (pc := 1058) ok 3 dL_law_1058 rfl ?_
  refine r_iload_n (pc := 1059) ok 0 dL_law_1059 rfl ?_
  refine r_iconst (pc := 1060) ok 3 dL_law_1060 (by decide) ?_
  refine r_iadd (pc := 1061) ok dL_law_1061 ?_
  refine r_sld (pc := 1062) ok hX hbl hbA (k + 3) (ix_add 3 rfl (by omega) (by omega)) (by omega) dL_law_1062 ?_
  refine r_callV (pc := 1063) (K := 22) (i := 0) ok [.int (xs (k + 1)), .int (xs (k + 2)), .int (xs (k + 3))] [.long r1] (rmL 8) (fun rZ MZ hZ => con_X11_where g l _ _ _ _ rZ MZ hZ) cv_L_115 ok_22 ⟨by decide, by decide, by show c + 1 ≤ 600000; omega, by show s + 160 ≤ 7302250; omega⟩ dL_law_1063 rfl rfl (Nat.le_of_ble_eq_true rfl) (fun r2 M2 => ?_)
  refine r_lcmp (pc := 1066) ok dL_law_1066 ?_
  exact r_if_eq (pc := 1067) ok 1613 dL_law_1067 (by decide) (fun _ => hJ M2) (fun _ => r_vac (fun res hr t h => by cases hr; exact absurd (show (0 : Int32) = 1 from h) (by decide)))
def lwC24 (xs : Nat → Int32) (k : Nat) (J : Mem → Option (Int32 × Mem)) (M : Mem) : Option (Int32 × Mem) :=
  ob (fX10_holds (xs (k + 1)) (xs (k + 2)) (xs (k + 3)) (xs (k + 4)) M) fun r1 M1 => ob (fX11_holds (xs (k + 1)) (xs (k + 2)) (xs (k + 3)) (xs (k + 4)) M1) fun r2 M2 => if r1 = r2 then J M2 else some (0, M2)
set_option maxRecDepth 20000 in
theorem sC24 {g : GP} {l : Launch} {x : CT} {b L k c s : Nat} {xs : Nat → Int32} (ok : Ok g l x RL cL_law 4 (some .boolean) room_1) (hX : va_X b L xs (cxS x) (cxS x).heap) (hbl : b < (cxS x).heap.size) (hbA : ¬ gU g b) (hL : L ≤ 3584) (hk : k + 7 ≤ L) (hc : c + 1 ≤ 600000) (hs : s + 160 ≤ 7302250) (J : Mem → Option (Int32 × Mem)) (hJ : ∀ M, Sw g l x (lwQ x) 4 (c + 1) (s + 160) 1613 (lvL g b k) [] M (J M)) (M : Mem) : Sw g l x (lwQ x) 4 c s 1072 (lvL g b k) [] M (lwC24 xs k J M) := by
  unfold lwC24
  refine r_widen (c + 1) (s + 160) (by omega) (by omega) ?_
  refine r_aload_n (pc := 1072) ok 2 dL_law_1072 rfl ?_
  refine r_aload_n (pc := 1073) ok 3 dL_law_1073 rfl ?_
  refine r_iload_n (pc := 1074) ok 0 dL_law_1074 rfl ?_
  refine r_iconst (pc := 1075) ok 1 dL_law_1075 (by decide) ?_
  refine r_iadd (pc := 1076) ok dL_law_1076 ?_
  refine r_sld (pc := 1077) ok hX hbl hbA (k + 1) (ix_add 1 rfl (by omega) (by omega)) (by omega) dL_law_1077 ?_
  refine r_aload_n (pc := 1078) ok 3 dL_law_1078 rfl ?_
  refine r_iload_n (pc := 1079) ok 0 dL_law_1079 rfl ?_
  refine r_iconst (pc := 1080) ok 2 dL_law_1080 (by decide) ?_
  refine r_iadd (pc := 1081) ok dL_law_1081 ?_
  refine r_sld (pc := 1082) ok hX hbl hbA (k + 2) (ix_add 2 rfl (by omega) (by omega)) (by omega) dL_law_1082 ?_
  refine r_aload_n (pc := 1083) ok 3 dL_law_1083 rfl ?_
  refine r_iload_n (pc := 1084) ok 0 dL_law_1084 rfl ?_
  refine r_iconst (pc := 1085) ok 3 dL_law_1085 (by decide) ?_
  refine r_iadd (pc := 1086) ok dL_law_1086 ?_
  refine r_sld (pc := 1087) ok hX hbl hbA (k + 3) (ix_add 3 rfl (by omega) (by omega)) (by omega) dL_law_1087 ?_
  refine r_aload_n (pc := 1088) ok 3 dL_law_1088 rfl ?_
  refine r_iload_n (pc := 1089) ok 0 dL_law_1089 rfl ?_
  refine r_iconst (pc := 1090) ok 4 dL_law_1090 (by decide) ?_
  refine r_iadd (pc := 1091) ok dL_law_1091 ?_
  refine r_sld (pc := 1092) ok hX hbl hbA (k + 4) (ix_add 4 rfl (by omega) (by omega)) (by omega) dL_law_1092 ?_
  refine r_callV (pc := 1093) (K := 0) (i := 0) ok [.int (xs (k + 1)), .int (xs (k + 2)), .int (xs (k + 3)), .int (xs (k + 4))] [] (rmL 9) (fun rZ MZ hZ => con_X10_holds g l _ _ _ _ _ rZ MZ hZ) cv_L_116 ok_0 ⟨by decide, by decide, by show c + 1 ≤ 600000; omega, by show s + 160 ≤ 7302250; omega⟩ dL_law_1093 rfl rfl (Nat.le_of_ble_eq_true rfl) (fun r1 M1 => ?_)
  refine r_aload_n (pc := 1096) ok 1 dL_law_1096 rfl ?_
  refine r_aload_n (pc := 1097) ok 3 dL_law_1097 rfl ?_
  refine r_iload_n (pc := 1098) ok 0 dL_law_1098 rfl ?_
  refine r_iconst (pc := 1099) ok 1 dL_law_1099 (by decide) ?_
  refine r_iadd (pc := 1100) ok dL_law_1100 ?_
  refine r_sld (pc := 1101) ok hX hbl hbA (k + 1) (ix_add 1 rfl (by omega) (by omega)) (by omega) dL_law_1101 ?_
  refine r_aload_n (pc := 1102) ok 3 dL_law_1102 rfl ?_
  refine r_iload_n (pc := 1103) ok 0 dL_law_1103 rfl ?_
  refine r_iconst (pc := 1104) ok 2 dL_law_1104 (by decide) ?_
  refine r_iadd (pc := 1105) ok dL_law_1105 ?_
  refine r_sld (pc := 1106) ok hX hbl hbA (k + 2) (ix_add 2 rfl (by omega) (by omega)) (by omega) dL_law_1106 ?_
  refine r_aload_n (pc := 1107) ok 3 dL_law_1107 rfl ?_
  refine r_iload_n (pc := 1108) ok 0 dL_law_1108 rfl ?_
  refine r_iconst (pc := 1109) ok 3 dL_law_1109 (by decide) ?_
  refine r_iadd (pc := 1110) ok dL_law_1110 ?_
  refine r_sld (pc := 1111) ok hX hbl hbA (k + 3) (ix_add 3 rfl (by omega) (by omega)) (by omega) dL_law_1111 ?_
  refine r_aload_n (pc := 1112) ok 3 dL_law_1112 rfl ?_
  refine r_iload_n (pc := 1113) ok 0 dL_law_1113 rfl ?_
  refine r_iconst (pc := 1114) ok 4 dL_law_1114 (by decide) ?_
  refine r_iadd (pc := 1115) ok dL_law_1115 ?_
  refine r_sld (pc := 1116) ok hX hbl hbA (k + 4) (ix_add 4 rfl (by omega) (by omega)) (by omega) dL_law_1116 ?_
  refine r_callV (pc := 1117) (K := 22) (i := 0) ok [.int (xs (k + 1)), .int (xs (k + 2)), .int (xs (k + 3)), .int (xs (k + 4))] [.int r1] (rmL 8) (fun rZ MZ hZ => con_X11_holds g l _ _ _ _ _ rZ MZ hZ) cv_L_119 ok_22 ⟨by decide, by decide, by show c + 1 ≤ 600000; omega, by show s + 160 ≤ 7302250; omega⟩ dL_law_1117 rfl rfl (Nat.le_of_ble_eq_true rfl) (fun r2 M2 => ?_)
  exact r_icmp_eq (pc := 1120) ok 1613 dL_law_1120 (by decide) (fun _ => hJ M2) (fun _ => r_vac (fun res hr t h => by cases hr; exact absurd (show (0 : Int32) = 1 from h) (by decide)))
def lwC25 (xs : Nat → Int32) (k : Nat) (J : Mem → Option (Int32 × Mem)) (M : Mem) : Option (Int32 × Mem) :=
  ob (fX10_laws (xs (k + 1)) (xs (k + 2)) M) fun r1 M1 => ob (fX11_laws (xs (k + 1)) (xs (k + 2)) M1) fun r2 M2 => if r1 = r2 then J M2 else some (0, M2)
set_option maxRecDepth 20000 in
theorem sC25 {g : GP} {l : Launch} {x : CT} {b L k c s : Nat} {xs : Nat → Int32} (ok : Ok g l x RL cL_law 4 (some .boolean) room_1) (hX : va_X b L xs (cxS x) (cxS x).heap) (hbl : b < (cxS x).heap.size) (hbA : ¬ gU g b) (hL : L ≤ 3584) (hk : k + 7 ≤ L) (hc : c + 1 ≤ 600000) (hs : s + 160 ≤ 7302250) (J : Mem → Option (Int32 × Mem)) (hJ : ∀ M, Sw g l x (lwQ x) 4 (c + 1) (s + 160) 1613 (lvL g b k) [] M (J M)) (M : Mem) : Sw g l x (lwQ x) 4 c s 1125 (lvL g b k) [] M (lwC25 xs k J M) := by
  unfold lwC25
  refine r_widen (c + 1) (s + 160) (by omega) (by omega) ?_
  refine r_aload_n (pc := 1125) ok 2 dL_law_1125 rfl ?_
  refine r_aload_n (pc := 1126) ok 3 dL_law_1126 rfl ?_
  refine r_iload_n (pc := 1127) ok 0 dL_law_1127 rfl ?_
  refine r_iconst (pc := 1128) ok 1 dL_law_1128 (by decide) ?_
  refine r_iadd (pc := 1129) ok dL_law_1129 ?_
  refine r_sld (pc := 1130) ok hX hbl hbA (k + 1) (ix_add 1 rfl (by omega) (by omega)) (by omega) dL_law_1130 ?_
  refine r_aload_n (pc := 1131) ok 3 dL_law_1131 rfl ?_
  refine r_iload_n (pc := 1132) ok 0 dL_law_1132 rfl ?_
  refine r_iconst (pc := 1133) ok 2 dL_law_1133 (by decide) ?_
  refine r_iadd (pc := 1134) ok dL_law_1134 ?_
  refine r_sld (pc := 1135) ok hX hbl hbA (k + 2) (ix_add 2 rfl (by omega) (by omega)) (by omega) dL_law_1135 ?_
  refine r_callV (pc := 1136) (K := 0) (i := 0) ok [.int (xs (k + 1)), .int (xs (k + 2))] [] (rmL 9) (fun rZ MZ hZ => con_X10_laws g l _ _ _ rZ MZ hZ) cv_L_120 ok_0 ⟨by decide, by decide, by show c + 1 ≤ 600000; omega, by show s + 160 ≤ 7302250; omega⟩ dL_law_1136 rfl rfl (Nat.le_of_ble_eq_true rfl) (fun r1 M1 => ?_)
  refine r_aload_n (pc := 1139) ok 1 dL_law_1139 rfl ?_
  refine r_aload_n (pc := 1140) ok 3 dL_law_1140 rfl ?_
  refine r_iload_n (pc := 1141) ok 0 dL_law_1141 rfl ?_
  refine r_iconst (pc := 1142) ok 1 dL_law_1142 (by decide) ?_
  refine r_iadd (pc := 1143) ok dL_law_1143 ?_
  refine r_sld (pc := 1144) ok hX hbl hbA (k + 1) (ix_add 1 rfl (by omega) (by omega)) (by omega) dL_law_1144 ?_
  refine r_aload_n (pc := 1145) ok 3 dL_law_1145 rfl ?_
  refine r_iload_n (pc := 1146) ok 0 dL_law_1146 rfl ?_
  refine r_iconst (pc := 1147) ok 2 dL_law_1147 (by decide) ?_
  refine r_iadd (pc := 1148) ok dL_law_1148 ?_
  refine r_sld (pc := 1149) ok hX hbl hbA (k + 2) (ix_add 2 rfl (by omega) (by omega)) (by omega) dL_law_1149 ?_
  refine r_callV (pc := 1150) (K := 22) (i := 0) ok [.int (xs (k + 1)), .int (xs (k + 2))] [.int r1] (rmL 8) (fun rZ MZ hZ => con_X11_laws g l _ _ _ rZ MZ hZ) cv_L_123 ok_22 ⟨by decide, by decide, by show c + 1 ≤ 600000; omega, by show s + 160 ≤ 7302250; omega⟩ dL_law_1150 rfl rfl (Nat.le_of_ble_eq_true rfl) (fun r2 M2 => ?_)
  exact r_icmp_eq (pc := 1153) ok 1613 dL_law_1153 (by decide) (fun _ => hJ M2) (fun _ => r_vac (fun res hr t h => by cases hr; exact absurd (show (0 : Int32) = 1 from h) (by decide)))
def lwC26 (xs : Nat → Int32) (k : Nat) (J : Mem → Option (Int32 × Mem)) (M : Mem) : Option (Int32 × Mem) :=
  ob (fX10_film (xs (k + 1)) (xs (k + 2)) (xs (k + 3)) M) fun r1 M1 => ob (fX11_film (xs (k + 1)) (xs (k + 2)) (xs (k + 3)) M1) fun r2 M2 => if r1 = r2 then J M2 else some (0, M2)
set_option maxRecDepth 20000 in
theorem sC26 {g : GP} {l : Launch} {x : CT} {b L k c s : Nat} {xs : Nat → Int32} (ok : Ok g l x RL cL_law 4 (some .boolean) room_1) (hX : va_X b L xs (cxS x) (cxS x).heap) (hbl : b < (cxS x).heap.size) (hbA : ¬ gU g b) (hL : L ≤ 3584) (hk : k + 7 ≤ L) (hc : c + 1 ≤ 600000) (hs : s + 160 ≤ 7302250) (J : Mem → Option (Int32 × Mem)) (hJ : ∀ M, Sw g l x (lwQ x) 4 (c + 1) (s + 160) 1613 (lvL g b k) [] M (J M)) (M : Mem) : Sw g l x (lwQ x) 4 c s 1158 (lvL g b k) [] M (lwC26 xs k J M) := by
  unfold lwC26
  refine r_widen (c + 1) (s + 160) (by omega) (by omega) ?_
  refine r_aload_n (pc := 1158) ok 2 dL_law_1158 rfl ?_
  refine r_aload_n (pc := 1159) ok 3 dL_law_1159 rfl ?_
  refine r_iload_n (pc := 1160) ok 0 dL_law_1160 rfl ?_
  refine r_iconst (pc := 1161) ok 1 dL_law_1161 (by decide) ?_
  refine r_iadd (pc := 1162) ok dL_law_1162 ?_
  refine r_sld (pc := 1163) ok hX hbl hbA (k + 1) (ix_add 1 rfl (by omega) (by omega)) (by omega) dL_law_1163 ?_
  refine r_aload_n (pc := 1164) ok 3 dL_law_1164 rfl ?_
  refine r_iload_n (pc := 1165) ok 0 dL_law_1165 rfl ?_
  refine r_iconst (pc := 1166) ok 2 dL_law_1166 (by decide) ?_
  refine r_iadd (pc := 1167) ok dL_law_1167 ?_
  refine r_sld (pc := 1168) ok hX hbl hbA (k + 2) (ix_add 2 rfl (by omega) (by omega)) (by omega) dL_law_1168 ?_
  refine r_aload_n (pc := 1169) ok 3 dL_law_1169 rfl ?_
  refine r_iload_n (pc := 1170) ok 0 dL_law_1170 rfl ?_
  refine r_iconst (pc := 1171) ok 3 dL_law_1171 (by decide) ?_
  refine r_iadd (pc := 1172) ok dL_law_1172 ?_
  refine r_sld (pc := 1173) ok hX hbl hbA (k + 3) (ix_add 3 rfl (by omega) (by omega)) (by omega) dL_law_1173 ?_
  refine r_callV (pc := 1174) (K := 0) (i := 0) ok [.int (xs (k + 1)), .int (xs (k + 2)), .int (xs (k + 3))] [] (rmL 8) (fun rZ MZ hZ => con_X10_film g l _ _ _ _ rZ MZ hZ) cv_L_124 ok_0 ⟨by decide, by decide, by show c + 1 ≤ 600000; omega, by show s + 160 ≤ 7302250; omega⟩ dL_law_1174 rfl rfl (Nat.le_of_ble_eq_true rfl) (fun r1 M1 => ?_)
  refine r_aload_n (pc := 1177) ok 1 dL_law_1177 rfl ?_
  refine r_aload_n (pc := 1178) ok 3 dL_law_1178 rfl ?_
  refine r_iload_n (pc := 1179) ok 0 dL_law_1179 rfl ?_
  refine r_iconst (pc := 1180) ok 1 dL_law_1180 (by decide) ?_
  refine r_iadd (pc := 1181) ok dL_law_1181 ?_
  refine r_sld (pc := 1182) ok hX hbl hbA (k + 1) (ix_add 1 rfl (by omega) (by omega)) (by omega) dL_law_1182 ?_
  refine r_aload_n (pc := 1183) ok 3 dL_law_1183 rfl ?_
  refine r_iload_n (pc := 1184) ok 0 dL_law_1184 rfl ?_
  refine r_iconst (pc := 1185) ok 2 dL_law_1185 (by decide) ?_
  refine r_iadd (pc := 1186) ok dL_law_1186 ?_
  refine r_sld (pc := 1187) ok hX hbl hbA (k + 2) (ix_add 2 rfl (by omega) (by omega)) (by omega) dL_law_1187 ?_
  refine r_aload_n (pc := 1188) ok 3 dL_law_1188 rfl ?_
  refine r_iload_n (pc := 1189) ok 0 dL_law_1189 rfl ?_
  refine r_iconst (pc := 1190) ok 3 dL_law_1190 (by decide) ?_
  refine r_iadd (pc := 1191) ok dL_law_1191 ?_
  refine r_sld (pc := 1192) ok hX hbl hbA (k + 3) (ix_add 3 rfl (by omega) (by omega)) (by omega) dL_law_1192 ?_
  refine r_callV (pc := 1193) (K := 22) (i := 0) ok [.int (xs (k + 1)), .int (xs (k + 2)), .int (xs (k + 3))] [.int r1] (rmL 7) (fun rZ MZ hZ => con_X11_film g l _ _ _ _ rZ MZ hZ) cv_L_127 ok_22 ⟨by decide, by decide, by show c + 1 ≤ 600000; omega, by show s + 160 ≤ 7302250; omega⟩ dL_law_1193 rfl rfl (Nat.le_of_ble_eq_true rfl) (fun r2 M2 => ?_)
  exact r_icmp_eq (pc := 1196) ok 1613 dL_law_1196 (by decide) (fun _ => hJ M2) (fun _ => r_vac (fun res hr t h => by cases hr; exact absurd (show (0 : Int32) = 1 from h) (by decide)))
def lwC27 (xs : Nat → Int32) (k : Nat) (J : Mem → Option (Int32 × Mem)) (M : Mem) : Option (Int32 × Mem) :=
  ob (fX10_drawn (xs (k + 1)) (xs (k + 2)) (xs (k + 3)) (xs (k + 4)) M) fun r1 M1 => ob (fX11_drawn (xs (k + 1)) (xs (k + 2)) (xs (k + 3)) (xs (k + 4)) M1) fun r2 M2 => if r1 = r2 then J M2 else some (0, M2)
set_option maxRecDepth 20000 in
theorem sC27 {g : GP} {l : Launch} {x : CT} {b L k c s : Nat} {xs : Nat → Int32} (ok : Ok g l x RL cL_law 4 (some .boolean) room_1) (hX : va_X b L xs (cxS x) (cxS x).heap) (hbl : b < (cxS x).heap.size) (hbA : ¬ gU g b) (hL : L ≤ 3584) (hk : k + 7 ≤ L) (hc : c + 1 ≤ 600000) (hs : s + 160 ≤ 7302250) (J : Mem → Option (Int32 × Mem)) (hJ : ∀ M, Sw g l x (lwQ x) 4 (c + 1) (s + 160) 1613 (lvL g b k) [] M (J M)) (M : Mem) : Sw g l x (lwQ x) 4 c s 1201 (lvL g b k) [] M (lwC27 xs k J M) := by
  unfold lwC27
  refine r_widen (c + 1) (s + 160) (by omega) (by omega) ?_
  refine r_aload_n (pc := 1201) ok 2 dL_law_1201 rfl ?_
  refine r_aload_n (pc := 1202) ok 3 dL_law_1202 rfl ?_
  refine r_iload_n (pc := 1203) ok 0 dL_law_1203 rfl ?_
  refine r_iconst (pc := 1204) ok 1 dL_law_1204 (by decide) ?_
  refine r_iadd (pc := 1205) ok dL_law_1205 ?_
  refine r_sld (pc := 1206) ok hX hbl hbA (k + 1) (ix_add 1 rfl (by omega) (by omega)) (by omega) dL_law_1206 ?_
  refine r_aload_n (pc := 1207) ok 3 dL_law_1207 rfl ?_
  refine r_iload_n (pc := 1208) ok 0 dL_law_1208 rfl ?_
  refine r_iconst (pc := 1209) ok 2 dL_law_1209 (by decide) ?_
  refine r_iadd (pc := 1210) ok dL_law_1210 ?_
  refine r_sld (pc := 1211) ok hX hbl hbA (k + 2) (ix_add 2 rfl (by omega) (by omega)) (by omega) dL_law_1211 ?_
  refine r_aload_n (pc := 1212) ok 3 dL_law_1212 rfl ?_
  refine r_iload_n (pc := 1213) ok 0 dL_law_1213 rfl ?_
  refine r_iconst (pc := 1214) ok 3 dL_law_1214 (by decide) ?_
  refine r_iadd (pc := 1215) ok dL_law_1215 ?_
  refine r_sld (pc := 1216) ok hX hbl hbA (k + 3) (ix_add 3 rfl (by omega) (by omega)) (by omega) dL_law_1216 ?_
  refine r_aload_n (pc := 1217) ok 3 dL_law_1217 rfl ?_
  refine r_iload_n (pc := 1218) ok 0 dL_law_1218 rfl ?_
  refine r_iconst (pc := 1219) ok 4 dL_law_1219 (by decide) ?_
  refine r_iadd (pc := 1220) ok dL_law_1220 ?_
  refine r_sld (pc := 1221) ok hX hbl hbA (k + 4) (ix_add 4 rfl (by omega) (by omega)) (by omega) dL_law_1221 ?_
  refine r_callV (pc := 1222) (K := 0) (i := 0) ok [.int (xs (k + 1)), .int (xs (k + 2)), .int (xs (k + 3)), .int (xs (k + 4))] [] (rmL 8) (fun rZ MZ hZ => con_X10_drawn g l _ _ _ _ _ rZ MZ hZ) cv_L_128 ok_0 ⟨by decide, by decide, by show c + 1 ≤ 600000; omega, by show s + 160 ≤ 7302250; omega⟩ dL_law_1222 rfl rfl (Nat.le_of_ble_eq_true rfl) (fun r1 M1 => ?_)
  refine r_aload_n (pc := 1225) ok 1 dL_law_1225 rfl ?_
  refine r_aload_n (pc := 1226) ok 3 dL_law_1226 rfl ?_
  refine r_iload_n (pc := 1227) ok 0 dL_law_1227 rfl ?_
  refine r_iconst (pc := 1228) ok 1 dL_law_1228 (by decide) ?_
  refine r_iadd (pc := 1229) ok dL_law_1229 ?_
  refine r_sld (pc := 1230) ok hX hbl hbA (k + 1) (ix_add 1 rfl (by omega) (by omega)) (by omega) dL_law_1230 ?_
  refine r_aload_n (pc := 1231) ok 3 dL_law_1231 rfl ?_
  refine r_iload_n (pc := 1232) ok 0 dL_law_1232 rfl ?_
  refine r_iconst (pc := 1233) ok 2 dL_law_1233 (by decide) ?_
  refine r_iadd (pc := 1234) ok dL_law_1234 ?_
  refine r_sld (pc := 1235) ok hX hbl hbA (k + 2) (ix_add 2 rfl (by omega) (by omega)) (by omega) dL_law_1235 ?_
  refine r_aload_n (pc := 1236) ok 3 dL_law_1236 rfl ?_
  refine r_iload_n (pc := 1237) ok 0 dL_law_1237 rfl ?_
  refine r_iconst (pc := 1238) ok 3 dL_law_1238 (by decide) ?_
  refine r_iadd (pc := 1239) ok dL_law_1239 ?_
  refine r_sld (pc := 1240) ok hX hbl hbA (k + 3) (ix_add 3 rfl (by omega) (by omega)) (by omega) dL_law_1240 ?_
  refine r_aload_n (pc := 1241) ok 3 dL_law_1241 rfl ?_
  refine r_iload_n (pc := 1242) ok 0 dL_law_1242 rfl ?_
  refine r_iconst (pc := 1243) ok 4 dL_law_1243 (by decide) ?_
  refine r_iadd (pc := 1244) ok dL_law_1244 ?_
  refine r_sld (pc := 1245) ok hX hbl hbA (k + 4) (ix_add 4 rfl (by omega) (by omega)) (by omega) dL_law_1245 ?_
  refine r_callV (pc := 1246) (K := 22) (i := 0) ok [.int (xs (k + 1)), .int (xs (k + 2)), .int (xs (k + 3)), .int (xs (k + 4))] [.int r1] (rmL 8) (fun rZ MZ hZ => con_X11_drawn g l _ _ _ _ _ rZ MZ hZ) cv_L_131 ok_22 ⟨by decide, by decide, by show c + 1 ≤ 600000; omega, by show s + 160 ≤ 7302250; omega⟩ dL_law_1246 rfl rfl (Nat.le_of_ble_eq_true rfl) (fun r2 M2 => ?_)
  exact r_icmp_eq (pc := 1249) ok 1613 dL_law_1249 (by decide) (fun _ => hJ M2) (fun _ => r_vac (fun res hr t h => by cases hr; exact absurd (show (0 : Int32) = 1 from h) (by decide)))
def lwC28 (xs : Nat → Int32) (k : Nat) (J : Mem → Option (Int32 × Mem)) (M : Mem) : Option (Int32 × Mem) :=
  ob (fX10_odds (xs (k + 1)) (xs (k + 2)) (xs (k + 3)) (xs (k + 4)) (xs (k + 5)) M) fun r1 M1 => ob (fX11_odds (xs (k + 1)) (xs (k + 2)) (xs (k + 3)) (xs (k + 4)) (xs (k + 5)) M1) fun r2 M2 => if lg_cmp r1 r2 = 0 then J M2 else some (0, M2)
set_option maxRecDepth 20000 in
theorem sC28 {g : GP} {l : Launch} {x : CT} {b L k c s : Nat} {xs : Nat → Int32} (ok : Ok g l x RL cL_law 4 (some .boolean) room_1) (hX : va_X b L xs (cxS x) (cxS x).heap) (hbl : b < (cxS x).heap.size) (hbA : ¬ gU g b) (hL : L ≤ 3584) (hk : k + 7 ≤ L) (hc : c + 1 ≤ 600000) (hs : s + 160 ≤ 7302250) (J : Mem → Option (Int32 × Mem)) (hJ : ∀ M, Sw g l x (lwQ x) 4 (c + 1) (s + 160) 1613 (lvL g b k) [] M (J M)) (M : Mem) : Sw g l x (lwQ x) 4 c s 1254 (lvL g b k) [] M (lwC28 xs k J M) := by
  unfold lwC28
  refine r_widen (c + 1) (s + 160) (by omega) (by omega) ?_
  refine r_aload_n (pc := 1254) ok 2 dL_law_1254 rfl ?_
  refine r_aload_n (pc := 1255) ok 3 dL_law_1255 rfl ?_
  refine r_iload_n (pc := 1256) ok 0 dL_law_1256 rfl ?_
  refine r_iconst (pc := 1257) ok 1 dL_law_1257 (by decide) ?_
  refine r_iadd (pc := 1258) ok dL_law_1258 ?_
  refine r_sld (pc := 1259) ok hX hbl hbA (k + 1) (ix_add 1 rfl (by omega) (by omega)) (by omega) dL_law_1259 ?_
  refine r_aload_n (pc := 1260) ok 3 dL_law_1260 rfl ?_
  refine r_iload_n (pc := 1261) ok 0 dL_law_1261 rfl ?_
  refine r_iconst (pc := 1262) ok 2 dL_law_1262 (by decide) ?_
  refine r_iadd (pc := 1263) ok dL_law_1263 ?_
  refine r_sld (pc := 1264) ok hX hbl hbA (k + 2) (ix_add 2 rfl (by omega) (by omega)) (by omega) dL_law_1264 ?_
  refine r_aload_n (pc := 1265) ok 3 dL_law_1265 rfl ?_
  refine r_iload_n (pc := 1266) ok 0 dL_law_1266 rfl ?_
  refine r_iconst (pc := 1267) ok 3 dL_law_1267 (by decide) ?_
  refine r_iadd (pc := 1268) ok dL_law_1268 ?_
  refine r_sld (pc := 1269) ok hX hbl hbA (k + 3) (ix_add 3 rfl (by omega) (by omega)) (by omega) dL_law_1269 ?_
  refine r_aload_n (pc := 1270) ok 3 dL_law_1270 rfl ?_
  refine r_iload_n (pc := 1271) ok 0 dL_law_1271 rfl ?_
  refine r_iconst (pc := 1272) ok 4 dL_law_1272 (by decide) ?_
  refine r_iadd (pc := 1273) ok dL_law_1273 ?_
  refine r_sld (pc := 1274) ok hX hbl hbA (k + 4) (ix_add 4 rfl (by omega) (by omega)) (by omega) dL_law_1274 ?_
  refine r_aload_n (pc := 1275) ok 3 dL_law_1275 rfl ?_
  refine r_iload_n (pc := 1276) ok 0 dL_law_1276 rfl ?_
  refine r_iconst (pc := 1277) ok 5 dL_law_1277 (by decide) ?_
  refine r_iadd (pc := 1278) ok dL_law_1278 ?_
  refine r_sld (pc := 1279) ok hX hbl hbA (k + 5) (ix_add 5 rfl (by omega) (by omega)) (by omega) dL_law_1279 ?_
  refine r_callV (pc := 1280) (K := 0) (i := 0) ok [.int (xs (k + 1)), .int (xs (k + 2)), .int (xs (k + 3)), .int (xs (k + 4)), .int (xs (k + 5))] [] (rmL 8) (fun rZ MZ hZ => con_X10_odds g l _ _ _ _ _ _ rZ MZ hZ) cv_L_132 ok_0 ⟨by decide, by decide, by show c + 1 ≤ 600000; omega, by show s + 160 ≤ 7302250; omega⟩ dL_law_1280 rfl rfl (Nat.le_of_ble_eq_true rfl) (fun r1 M1 => ?_)
  refine r_aload_n (pc := 1283) ok 1 dL_law_1283 rfl ?_
  refine r_aload_n (pc := 1284) ok 3 dL_law_1284 rfl ?_
  refine r_iload_n (pc := 1285) ok 0 dL_law_1285 rfl ?_
  refine r_iconst (pc := 1286) ok 1 dL_law_1286 (by decide) ?_
  refine r_iadd (pc := 1287) ok dL_law_1287 ?_
  refine r_sld (pc := 1288) ok hX hbl hbA (k + 1) (ix_add 1 rfl (by omega) (by omega)) (by omega) dL_law_1288 ?_
  refine r_aload_n (pc := 1289) ok 3 dL_law_1289 rfl ?_
  refine r_iload_n (pc := 1290) ok 0 dL_law_1290 rfl ?_
  refine r_iconst (pc := 1291) ok 2 dL_law_1291 (by decide) ?_
  refine r_iadd (pc := 1292) ok dL_law_1292 ?_
  refine r_sld (pc := 1293) ok hX hbl hbA (k + 2) (ix_add 2 rfl (by omega) (by omega)) (by omega) dL_law_1293 ?_
  refine r_aload_n (pc := 1294) ok 3 dL_law_1294 rfl ?_
  refine r_iload_n (pc := 1295) ok 0 dL_law_1295 rfl ?_
  refine r_iconst (pc := 1296) ok 3 dL_law_1296 (by decide) ?_
  refine r_iadd (pc := 1297) ok dL_law_1297 ?_
  refine r_sld (pc := 1298) ok hX hbl hbA (k + 3) (ix_add 3 rfl (by omega) (by omega)) (by omega) dL_law_1298 ?_
  refine r_aload_n (pc := 1299) ok 3 dL_law_1299 rfl ?_
  refine r_iload_n (pc := 1300) ok 0 dL_law_1300 rfl ?_
  refine r_iconst (pc := 1301) ok 4 dL_law_1301 (by decide) ?_
  refine r_iadd (pc := 1302) ok dL_law_1302 ?_
  refine r_sld (pc := 1303) ok hX hbl hbA (k + 4) (ix_add 4 rfl (by omega) (by omega)) (by omega) dL_law_1303 ?_
  refine r_aload_n (pc := 1304) ok 3 dL_law_1304 rfl ?_
  refine r_iload_n (pc := 1305) ok 0 dL_law_1305 rfl ?_
  refine r_iconst (pc := 1306) ok 5 dL_law_1306 (by decide) ?_
  refine r_iadd (pc := 1307) ok dL_law_1307 ?_
  refine r_sld (pc := 1308) ok hX hbl hbA (k + 5) (ix_add 5 rfl (by omega) (by omega)) (by omega) dL_law_1308 ?_
  refine r_callV (pc := 1309) (K := 22) (i := 0) ok [.int (xs (k + 1)), .int (xs (k + 2)), .int (xs (k + 3)), .int (xs (k + 4)), .int (xs (k + 5))] [.long r1] (rmL 8) (fun rZ MZ hZ => con_X11_odds g l _ _ _ _ _ _ rZ MZ hZ) cv_L_136 ok_22 ⟨by decide, by decide, by show c + 1 ≤ 600000; omega, by show s + 160 ≤ 7302250; omega⟩ dL_law_1309 rfl rfl (Nat.le_of_ble_eq_true rfl) (fun r2 M2 => ?_)
  refine r_lcmp (pc := 1312) ok dL_law_1312 ?_
  exact r_if_eq (pc := 1313) ok 1613 dL_law_1313 (by decide) (fun _ => hJ M2) (fun _ => r_vac (fun res hr t h => by cases hr; exact absurd (show (0 : Int32) = 1 from h) (by decide)))
def lwC29 (xs : Nat → Int32) (k : Nat) (J : Mem → Option (Int32 × Mem)) (M : Mem) : Option (Int32 × Mem) :=
  ob (fX10_share (xs (k + 1)) (xs (k + 2)) M) fun r1 M1 => ob (fX11_share (xs (k + 1)) (xs (k + 2)) M1) fun r2 M2 => if lg_cmp r1 r2 = 0 then J M2 else some (0, M2)
set_option maxRecDepth 20000 in
theorem sC29 {g : GP} {l : Launch} {x : CT} {b L k c s : Nat} {xs : Nat → Int32} (ok : Ok g l x RL cL_law 4 (some .boolean) room_1) (hX : va_X b L xs (cxS x) (cxS x).heap) (hbl : b < (cxS x).heap.size) (hbA : ¬ gU g b) (hL : L ≤ 3584) (hk : k + 7 ≤ L) (hc : c + 1 ≤ 600000) (hs : s + 160 ≤ 7302250) (J : Mem → Option (Int32 × Mem)) (hJ : ∀ M, Sw g l x (lwQ x) 4 (c + 1) (s + 160) 1613 (lvL g b k) [] M (J M)) (M : Mem) : Sw g l x (lwQ x) 4 c s 1318 (lvL g b k) [] M (lwC29 xs k J M) := by
  unfold lwC29
  refine r_widen (c + 1) (s + 160) (by omega) (by omega) ?_
  refine r_aload_n (pc := 1318) ok 2 dL_law_1318 rfl ?_
  refine r_aload_n (pc := 1319) ok 3 dL_law_1319 rfl ?_
  refine r_iload_n (pc := 1320) ok 0 dL_law_1320 rfl ?_
  refine r_iconst (pc := 1321) ok 1 dL_law_1321 (by decide) ?_
  refine r_iadd (pc := 1322) ok dL_law_1322 ?_
  refine r_sld (pc := 1323) ok hX hbl hbA (k + 1) (ix_add 1 rfl (by omega) (by omega)) (by omega) dL_law_1323 ?_
  refine r_aload_n (pc := 1324) ok 3 dL_law_1324 rfl ?_
  refine r_iload_n (pc := 1325) ok 0 dL_law_1325 rfl ?_
  refine r_iconst (pc := 1326) ok 2 dL_law_1326 (by decide) ?_
  refine r_iadd (pc := 1327) ok dL_law_1327 ?_
  refine r_sld (pc := 1328) ok hX hbl hbA (k + 2) (ix_add 2 rfl (by omega) (by omega)) (by omega) dL_law_1328 ?_
  refine r_callV (pc := 1329) (K := 0) (i := 0) ok [.int (xs (k + 1)), .int (xs (k + 2))] [] (rmL 3) (fun rZ MZ hZ => con_X10_share g l _ _ _ rZ MZ hZ) cv_L_137 ok_0 ⟨by decide, by decide, by show c + 1 ≤ 600000; omega, by show s + 160 ≤ 7302250; omega⟩ dL_law_1329 rfl rfl (Nat.le_of_ble_eq_true rfl) (fun r1 M1 => ?_)
  refine r_aload_n (pc := 1332) ok 1 dL_law_1332 rfl ?_
  refine r_aload_n (pc := 1333) ok 3 dL_law_1333 rfl ?_
  refine r_iload_n (pc := 1334) ok 0 dL_law_1334 rfl ?_
  refine r_iconst (pc := 1335) ok 1 dL_law_1335 (by decide) ?_
  refine r_iadd (pc := 1336) ok dL_law_1336 ?_
  refine r_sld (pc := 1337) ok hX hbl hbA (k + 1) (ix_add 1 rfl (by omega) (by omega)) (by omega) dL_law_1337 ?_
  refine r_aload_n (pc := 1338) ok 3 dL_law_1338 rfl ?_
  refine r_iload_n (pc := 1339) ok 0 dL_law_1339 rfl ?_
  refine r_iconst (pc := 1340) ok 2 dL_law_1340 (by decide) ?_
  refine r_iadd (pc := 1341) ok dL_law_1341 ?_
  refine r_sld (pc := 1342) ok hX hbl hbA (k + 2) (ix_add 2 rfl (by omega) (by omega)) (by omega) dL_law_1342 ?_
  refine r_callV (pc := 1343) (K := 22) (i := 0) ok [.int (xs (k + 1)), .int (xs (k + 2))] [.long r1] (rmL 3) (fun rZ MZ hZ => con_X11_share g l _ _ _ rZ MZ hZ) cv_L_141 ok_22 ⟨by decide, by decide, by show c + 1 ≤ 600000; omega, by show s + 160 ≤ 7302250; omega⟩ dL_law_1343 rfl rfl (Nat.le_of_ble_eq_true rfl) (fun r2 M2 => ?_)
  refine r_lcmp (pc := 1346) ok dL_law_1346 ?_
  exact r_if_eq (pc := 1347) ok 1613 dL_law_1347 (by decide) (fun _ => hJ M2) (fun _ => r_vac (fun res hr t h => by cases hr; exact absurd (show (0 : Int32) = 1 from h) (by decide)))
def lwC30 (xs : Nat → Int32) (k : Nat) (J : Mem → Option (Int32 × Mem)) (M : Mem) : Option (Int32 × Mem) :=
  ob (fX10_image M) fun r1 M1 => ob (fX11_image M1) fun r2 M2 => if r1 = r2 then J M2 else some (0, M2)
set_option maxRecDepth 20000 in
theorem sC30 {g : GP} {l : Launch} {x : CT} {b L k c s : Nat} {xs : Nat → Int32} (ok : Ok g l x RL cL_law 4 (some .boolean) room_1) (hX : va_X b L xs (cxS x) (cxS x).heap) (hbl : b < (cxS x).heap.size) (hbA : ¬ gU g b) (hL : L ≤ 3584) (hk : k + 7 ≤ L) (hc : c + 1 ≤ 600000) (hs : s + 160 ≤ 7302250) (J : Mem → Option (Int32 × Mem)) (hJ : ∀ M, Sw g l x (lwQ x) 4 (c + 1) (s + 160) 1613 (lvL g b k) [] M (J M)) (M : Mem) : Sw g l x (lwQ x) 4 c s 1352 (lvL g b k) [] M (lwC30 xs k J M) := by
  unfold lwC30
  refine r_widen (c + 1) (s + 160) (by omega) (by omega) ?_
  refine r_aload_n (pc := 1352) ok 2 dL_law_1352 rfl ?_
  refine r_callV (pc := 1353) (K := 0) (i := 0) ok [] [] (rmL 3) (fun rZ MZ hZ => con_X10_image g l _ rZ MZ hZ) cv_L_142 ok_0 ⟨by decide, by decide, by show c + 1 ≤ 600000; omega, by show s + 160 ≤ 7302250; omega⟩ dL_law_1353 rfl rfl (Nat.le_of_ble_eq_true rfl) (fun r1 M1 => ?_)
  refine r_aload_n (pc := 1356) ok 1 dL_law_1356 rfl ?_
  refine r_callV (pc := 1357) (K := 22) (i := 0) ok [] [.int r1] (rmL 2) (fun rZ MZ hZ => con_X11_image g l _ rZ MZ hZ) cv_L_145 ok_22 ⟨by decide, by decide, by show c + 1 ≤ 600000; omega, by show s + 160 ≤ 7302250; omega⟩ dL_law_1357 rfl rfl (Nat.le_of_ble_eq_true rfl) (fun r2 M2 => ?_)
  exact r_icmp_eq (pc := 1360) ok 1613 dL_law_1360 (by decide) (fun _ => hJ M2) (fun _ => r_vac (fun res hr t h => by cases hr; exact absurd (show (0 : Int32) = 1 from h) (by decide)))
def lwC31 (xs : Nat → Int32) (k : Nat) (J : Mem → Option (Int32 × Mem)) (M : Mem) : Option (Int32 × Mem) :=
  ob (fX10_back M) fun r1 M1 => ob (fX11_back M1) fun r2 M2 => if r1 = r2 then J M2 else some (0, M2)
set_option maxRecDepth 20000 in
theorem sC31 {g : GP} {l : Launch} {x : CT} {b L k c s : Nat} {xs : Nat → Int32} (ok : Ok g l x RL cL_law 4 (some .boolean) room_1) (hX : va_X b L xs (cxS x) (cxS x).heap) (hbl : b < (cxS x).heap.size) (hbA : ¬ gU g b) (hL : L ≤ 3584) (hk : k + 7 ≤ L) (hc : c + 1 ≤ 600000) (hs : s + 160 ≤ 7302250) (J : Mem → Option (Int32 × Mem)) (hJ : ∀ M, Sw g l x (lwQ x) 4 (c + 1) (s + 160) 1613 (lvL g b k) [] M (J M)) (M : Mem) : Sw g l x (lwQ x) 4 c s 1365 (lvL g b k) [] M (lwC31 xs k J M) := by
  unfold lwC31
  refine r_widen (c + 1) (s + 160) (by omega) (by omega) ?_
  refine r_aload_n (pc := 1365) ok 2 dL_law_1365 rfl ?_
  refine r_callV (pc := 1366) (K := 0) (i := 0) ok [] [] (rmL 3) (fun rZ MZ hZ => con_X10_back g l _ rZ MZ hZ) cv_L_146 ok_0 ⟨by decide, by decide, by show c + 1 ≤ 600000; omega, by show s + 160 ≤ 7302250; omega⟩ dL_law_1366 rfl rfl (Nat.le_of_ble_eq_true rfl) (fun r1 M1 => ?_)
  refine r_aload_n (pc := 1369) ok 1 dL_law_1369 rfl ?_
  refine r_callV (pc := 1370) (K := 22) (i := 0) ok [] [.int r1] (rmL 2) (fun rZ MZ hZ => con_X11_back g l _ rZ MZ hZ) cv_L_149 ok_22 ⟨by decide, by decide, by show c + 1 ≤ 600000; omega, by show s + 160 ≤ 7302250; omega⟩ dL_law_1370 rfl rfl (Nat.le_of_ble_eq_true rfl) (fun r2 M2 => ?_)
  exact r_icmp_eq (pc := 1373) ok 1613 dL_law_1373 (by decide) (fun _ => hJ M2) (fun _ => r_vac (fun res hr t h => by cases hr; exact absurd (show (0 : Int32) = 1 from h) (by decide)))
def lwC32 (xs : Nat → Int32) (k : Nat) (J : Mem → Option (Int32 × Mem)) (M : Mem) : Option (Int32 × Mem) :=
  ob (fX10_sheet (xs (k + 1)) (xs (k + 2)) (xs (k + 3)) M) fun r1 M1 => ob (fX11_sheet (xs (k + 1)) (xs (k + 2)) (xs (k + 3)) M1) fun r2 M2 => if r1 = r2 then J M2 else some (0, M2)
set_option maxRecDepth 20000 in
theorem sC32 {g : GP} {l : Launch} {x : CT} {b L k c s : Nat} {xs : Nat → Int32} (ok : Ok g l x RL cL_law 4 (some .boolean) room_1) (hX : va_X b L xs (cxS x) (cxS x).heap) (hbl : b < (cxS x).heap.size) (hbA : ¬ gU g b) (hL : L ≤ 3584) (hk : k + 7 ≤ L) (hc : c + 1 ≤ 600000) (hs : s + 160 ≤ 7302250) (J : Mem → Option (Int32 × Mem)) (hJ : ∀ M, Sw g l x (lwQ x) 4 (c + 1) (s + 160) 1613 (lvL g b k) [] M (J M)) (M : Mem) : Sw g l x (lwQ x) 4 c s 1378 (lvL g b k) [] M (lwC32 xs k J M) := by
  unfold lwC32
  refine r_widen (c + 1) (s + 160) (by omega) (by omega) ?_
  refine r_aload_n (pc := 1378) ok 2 dL_law_1378 rfl ?_
  refine r_aload_n (pc := 1379) ok 3 dL_law_1379 rfl ?_
  refine r_iload_n (pc := 1380) ok 0 dL_law_1380 rfl ?_
  refine r_iconst (pc := 1381) ok 1 dL_law_1381 (by decide) ?_
  refine r_iadd (pc := 1382) ok dL_law_1382 ?_
  refine r_sld (pc := 1383) ok hX hbl hbA (k + 1) (ix_add 1 rfl (by omega) (by omega)) (by omega) dL_law_1383 ?_
  refine r_aload_n (pc := 1384) ok 3 dL_law_1384 rfl ?_
  refine r_iload_n (pc := 1385) ok 0 dL_law_1385 rfl ?_
  refine r_iconst (pc := 1386) ok 2 dL_law_1386 (by decide) ?_
  refine r_iadd (pc := 1387) ok dL_law_1387 ?_
  refine r_sld (pc := 1388) ok hX hbl hbA (k + 2) (ix_add 2 rfl (by omega) (by omega)) (by omega) dL_law_1388 ?_
  refine r_aload_n (pc := 1389) ok 3 dL_law_1389 rfl ?_
  refine r_iload_n (pc := 1390) ok 0 dL_law_1390 rfl ?_
  refine r_iconst (pc := 1391) ok 3 dL_law_1391 (by decide) ?_
  refine r_iadd (pc := 1392) ok dL_law_1392 ?_
  refine r_sld (pc := 1393) ok hX hbl hbA (k + 3) (ix_add 3 rfl (by omega) (by omega)) (by omega) dL_law_1393 ?_
  refine r_callV (pc := 1394) (K := 0) (i := 0) ok [.int (xs (k + 1)), .int (xs (k + 2)), .int (xs (k + 3))] [] (rmL 4) (fun rZ MZ hZ => con_X10_sheet g l _ _ _ _ rZ MZ hZ) cv_L_150 ok_0 ⟨by decide, by decide, by show c + 1 ≤ 600000; omega, by show s + 160 ≤ 7302250; omega⟩ dL_law_1394 rfl rfl (Nat.le_of_ble_eq_true rfl) (fun r1 M1 => ?_)
  refine r_aload_n (pc := 1397) ok 1 dL_law_1397 rfl ?_
  refine r_aload_n (pc := 1398) ok 3 dL_law_1398 rfl ?_
  refine r_iload_n (pc := 1399) ok 0 dL_law_1399 rfl ?_
  refine r_iconst (pc := 1400) ok 1 dL_law_1400 (by decide) ?_
  refine r_iadd (pc := 1401) ok dL_law_1401 ?_
  refine r_sld (pc := 1402) ok hX hbl hbA (k + 1) (ix_add 1 rfl (by omega) (by omega)) (by omega) dL_law_1402 ?_
  refine r_aload_n (pc := 1403) ok 3 dL_law_1403 rfl ?_
  refine r_iload_n (pc := 1404) ok 0 dL_law_1404 rfl ?_
  refine r_iconst (pc := 1405) ok 2 dL_law_1405 (by decide) ?_
  refine r_iadd (pc := 1406) ok dL_law_1406 ?_
  refine r_sld (pc := 1407) ok hX hbl hbA (k + 2) (ix_add 2 rfl (by omega) (by omega)) (by omega) dL_law_1407 ?_
  refine r_aload_n (pc := 1408) ok 3 dL_law_1408 rfl ?_
  refine r_iload_n (pc := 1409) ok 0 dL_law_1409 rfl ?_
  refine r_iconst (pc := 1410) ok 3 dL_law_1410 (by decide) ?_
  refine r_iadd (pc := 1411) ok dL_law_1411 ?_
  refine r_sld (pc := 1412) ok hX hbl hbA (k + 3) (ix_add 3 rfl (by omega) (by omega)) (by omega) dL_law_1412 ?_
  refine r_callV (pc := 1413) (K := 22) (i := 0) ok [.int (xs (k + 1)), .int (xs (k + 2)), .int (xs (k + 3))] [.int r1] (rmL 3) (fun rZ MZ hZ => con_X11_sheet g l _ _ _ _ rZ MZ hZ) cv_L_153 ok_22 ⟨by decide, by decide, by show c + 1 ≤ 600000; omega, by show s + 160 ≤ 7302250; omega⟩ dL_law_1413 rfl rfl (Nat.le_of_ble_eq_true rfl) (fun r2 M2 => ?_)
  exact r_icmp_eq (pc := 1416) ok 1613 dL_law_1416 (by decide) (fun _ => hJ M2) (fun _ => r_vac (fun res hr t h => by cases hr; exact absurd (show (0 : Int32) = 1 from h) (by decide)))
def lwC33 (xs : Nat → Int32) (k : Nat) (J : Mem → Option (Int32 × Mem)) (M : Mem) : Option (Int32 × Mem) :=
  ob (fX10_cell (xs (k + 1)) (xs (k + 2)) (xs (k + 3)) M) fun r1 M1 => ob (fX11_cell (xs (k + 1)) (xs (k + 2)) (xs (k + 3)) M1) fun r2 M2 => if r1 = r2 then J M2 else some (0, M2)
set_option maxRecDepth 20000 in
theorem sC33 {g : GP} {l : Launch} {x : CT} {b L k c s : Nat} {xs : Nat → Int32} (ok : Ok g l x RL cL_law 4 (some .boolean) room_1) (hX : va_X b L xs (cxS x) (cxS x).heap) (hbl : b < (cxS x).heap.size) (hbA : ¬ gU g b) (hL : L ≤ 3584) (hk : k + 7 ≤ L) (hc : c + 1 ≤ 600000) (hs : s + 160 ≤ 7302250) (J : Mem → Option (Int32 × Mem)) (hJ : ∀ M, Sw g l x (lwQ x) 4 (c + 1) (s + 160) 1613 (lvL g b k) [] M (J M)) (M : Mem) : Sw g l x (lwQ x) 4 c s 1421 (lvL g b k) [] M (lwC33 xs k J M) := by
  unfold lwC33
  refine r_widen (c + 1) (s + 160) (by omega) (by omega) ?_
  refine r_aload_n (pc := 1421) ok 2 dL_law_1421 rfl ?_
  refine r_aload_n (pc := 1422) ok 3 dL_law_1422 rfl ?_
  refine r_iload_n (pc := 1423) ok 0 dL_law_1423 rfl ?_
  refine r_iconst (pc := 1424) ok 1 dL_law_1424 (by decide) ?_
  refine r_iadd (pc := 1425) ok dL_law_1425 ?_
  refine r_sld (pc := 1426) ok hX hbl hbA (k + 1) (ix_add 1 rfl (by omega) (by omega)) (by omega) dL_law_1426 ?_
  refine r_aload_n (pc := 1427) ok 3 dL_law_1427 rfl ?_
  refine r_iload_n (pc := 1428) ok 0 dL_law_1428 rfl ?_
  refine r_iconst (pc := 1429) ok 2 dL_law_1429 (by decide) ?_
  refine r_iadd (pc := 1430) ok dL_law_1430 ?_
  refine r_sld (pc := 1431) ok hX hbl hbA (k + 2) (ix_add 2 rfl (by omega) (by omega)) (by omega) dL_law_1431 ?_
  refine r_aload_n (pc := 1432) ok 3 dL_law_1432 rfl ?_
  refine r_iload_n (pc := 1433) ok 0 dL_law_1433 rfl ?_
  refine r_iconst (pc := 1434) ok 3 dL_law_1434 (by decide) ?_
  refine r_iadd (pc := 1435) ok dL_law_1435 ?_
  refine r_sld (pc := 1436) ok hX hbl hbA (k + 3) (ix_add 3 rfl (by omega) (by omega)) (by omega) dL_law_1436 ?_
  refine r_callV (pc := 1437) (K := 0) (i := 0) ok [.int (xs (k + 1)), .int (xs (k + 2)), .int (xs (k + 3))] [] (rmL 4) (fun rZ MZ hZ => con_X10_cell g l _ _ _ _ rZ MZ hZ) cv_L_154 ok_0 ⟨by decide, by decide, by show c + 1 ≤ 600000; omega, by show s + 160 ≤ 7302250; omega⟩ dL_law_1437 rfl rfl (Nat.le_of_ble_eq_true rfl) (fun r1 M1 => ?_)
  refine r_aload_n (pc := 1440) ok 1 dL_law_1440 rfl ?_
  refine r_aload_n (pc := 1441) ok 3 dL_law_1441 rfl ?_
  refine r_iload_n (pc := 1442) ok 0 dL_law_1442 rfl ?_
  refine r_iconst (pc := 1443) ok 1 dL_law_1443 (by decide) ?_
  refine r_iadd (pc := 1444) ok dL_law_1444 ?_
  refine r_sld (pc := 1445) ok hX hbl hbA (k + 1) (ix_add 1 rfl (by omega) (by omega)) (by omega) dL_law_1445 ?_
  refine r_aload_n (pc := 1446) ok 3 dL_law_1446 rfl ?_
  refine r_iload_n (pc := 1447) ok 0 dL_law_1447 rfl ?_
  refine r_iconst (pc := 1448) ok 2 dL_law_1448 (by decide) ?_
  refine r_iadd (pc := 1449) ok dL_law_1449 ?_
  refine r_sld (pc := 1450) ok hX hbl hbA (k + 2) (ix_add 2 rfl (by omega) (by omega)) (by omega) dL_law_1450 ?_
  refine r_aload_n (pc := 1451) ok 3 dL_law_1451 rfl ?_
  refine r_iload_n (pc := 1452) ok 0 dL_law_1452 rfl ?_
  refine r_iconst (pc := 1453) ok 3 dL_law_1453 (by decide) ?_
  refine r_iadd (pc := 1454) ok dL_law_1454 ?_
  refine r_sld (pc := 1455) ok hX hbl hbA (k + 3) (ix_add 3 rfl (by omega) (by omega)) (by omega) dL_law_1455 ?_
  refine r_callV (pc := 1456) (K := 22) (i := 0) ok [.int (xs (k + 1)), .int (xs (k + 2)), .int (xs (k + 3))] [.int r1] (rmL 3) (fun rZ MZ hZ => con_X11_cell g l _ _ _ _ rZ MZ hZ) cv_L_157 ok_22 ⟨by decide, by decide, by show c + 1 ≤ 600000; omega, by show s + 160 ≤ 7302250; omega⟩ dL_law_1456 rfl rfl (Nat.le_of_ble_eq_true rfl) (fun r2 M2 => ?_)
  exact r_icmp_eq (pc := 1459) ok 1613 dL_law_1459 (by decide) (fun _ => hJ M2) (fun _ => r_vac (fun res hr t h => by cases hr; exact absurd (show (0 : Int32) = 1 from h) (by decide)))
def lwC34 (xs : Nat → Int32) (k : Nat) (J : Mem → Option (Int32 × Mem)) (M : Mem) : Option (Int32 × Mem) :=
  ob (fX10_copy (xs (k + 1)) (xs (k + 2)) (xs (k + 3)) (xs (k + 4)) (xs (k + 5)) M) fun r1 M1 => ob (fX11_copy (xs (k + 1)) (xs (k + 2)) (xs (k + 3)) (xs (k + 4)) (xs (k + 5)) M1) fun r2 M2 => if r1 = r2 then J M2 else some (0, M2)
set_option maxRecDepth 20000 in
theorem sC34 {g : GP} {l : Launch} {x : CT} {b L k c s : Nat} {xs : Nat → Int32} (ok : Ok g l x RL cL_law 4 (some .boolean) room_1) (hX : va_X b L xs (cxS x) (cxS x).heap) (hbl : b < (cxS x).heap.size) (hbA : ¬ gU g b) (hL : L ≤ 3584) (hk : k + 7 ≤ L) (hc : c + 1 ≤ 600000) (hs : s + 160 ≤ 7302250) (J : Mem → Option (Int32 × Mem)) (hJ : ∀ M, Sw g l x (lwQ x) 4 (c + 1) (s + 160) 1613 (lvL g b k) [] M (J M)) (M : Mem) : Sw g l x (lwQ x) 4 c s 1464 (lvL g b k) [] M (lwC34 xs k J M) := by
  unfold lwC34
  refine r_widen (c + 1) (s + 160) (by omega) (by omega) ?_
  refine r_aload_n (pc := 1464) ok 2 dL_law_1464 rfl ?_
  refine r_aload_n (pc := 1465) ok 3 dL_law_1465 rfl ?_
  refine r_iload_n (pc := 1466) ok 0 dL_law_1466 rfl ?_
  refine r_iconst (pc := 1467) ok 1 dL_law_1467 (by decide) ?_
  refine r_iadd (pc := 1468) ok dL_law_1468 ?_
  refine r_sld (pc := 1469) ok hX hbl hbA (k + 1) (ix_add 1 rfl (by omega) (by omega)) (by omega) dL_law_1469 ?_
  refine r_aload_n (pc := 1470) ok 3 dL_law_1470 rfl ?_
  refine r_iload_n (pc := 1471) ok 0 dL_law_1471 rfl ?_
  refine r_iconst (pc := 1472) ok 2 dL_law_1472 (by decide) ?_
  refine r_iadd (pc := 1473) ok dL_law_1473 ?_
  refine r_sld (pc := 1474) ok hX hbl hbA (k + 2) (ix_add 2 rfl (by omega) (by omega)) (by omega) dL_law_1474 ?_
  refine r_aload_n (pc := 1475) ok 3 dL_law_1475 rfl ?_
  refine r_iload_n (pc := 1476) ok 0 dL_law_1476 rfl ?_
  refine r_iconst (pc := 1477) ok 3 dL_law_1477 (by decide) ?_
  refine r_iadd (pc := 1478) ok dL_law_1478 ?_
  refine r_sld (pc := 1479) ok hX hbl hbA (k + 3) (ix_add 3 rfl (by omega) (by omega)) (by omega) dL_law_1479 ?_
  refine r_aload_n (pc := 1480) ok 3 dL_law_1480 rfl ?_
  refine r_iload_n (pc := 1481) ok 0 dL_law_1481 rfl ?_
  refine r_iconst (pc := 1482) ok 4 dL_law_1482 (by decide) ?_
  refine r_iadd (pc := 1483) ok dL_law_1483 ?_
  refine r_sld (pc := 1484) ok hX hbl hbA (k + 4) (ix_add 4 rfl (by omega) (by omega)) (by omega) dL_law_1484 ?_
  refine r_aload_n (pc := 1485) ok 3 dL_law_1485 rfl ?_
  refine r_iload_n (pc := 1486) ok 0 dL_law_1486 rfl ?_
  refine r_iconst (pc := 1487) ok 5 dL_law_1487 (by decide) ?_
  refine r_iadd (pc := 1488) ok dL_law_1488 ?_
  refine r_sld (pc := 1489) ok hX hbl hbA (k + 5) (ix_add 5 rfl (by omega) (by omega)) (by omega) dL_law_1489 ?_
  refine r_callV (pc := 1490) (K := 0) (i := 0) ok [.int (xs (k + 1)), .int (xs (k + 2)), .int (xs (k + 3)), .int (xs (k + 4)), .int (xs (k + 5))] [] (rmL 4) (fun rZ MZ hZ => con_X10_copy g l _ _ _ _ _ _ rZ MZ hZ) cv_L_158 ok_0 ⟨by decide, by decide, by show c + 1 ≤ 600000; omega, by show s + 160 ≤ 7302250; omega⟩ dL_law_1490 rfl rfl (Nat.le_of_ble_eq_true rfl) (fun r1 M1 => ?_)
  refine r_aload_n (pc := 1493) ok 1 dL_law_1493 rfl ?_
  refine r_aload_n (pc := 1494) ok 3 dL_law_1494 rfl ?_
  refine r_iload_n (pc := 1495) ok 0 dL_law_1495 rfl ?_
  refine r_iconst (pc := 1496) ok 1 dL_law_1496 (by decide) ?_
  refine r_iadd (pc := 1497) ok dL_law_1497 ?_
  refine r_sld (pc := 1498) ok hX hbl hbA (k + 1) (ix_add 1 rfl (by omega) (by omega)) (by omega) dL_law_1498 ?_
  refine r_aload_n (pc := 1499) ok 3 dL_law_1499 rfl ?_
  refine r_iload_n (pc := 1500) ok 0 dL_law_1500 rfl ?_
  refine r_iconst (pc := 1501) ok 2 dL_law_1501 (by decide) ?_
  refine r_iadd (pc := 1502) ok dL_law_1502 ?_
  refine r_sld (pc := 1503) ok hX hbl hbA (k + 2) (ix_add 2 rfl (by omega) (by omega)) (by omega) dL_law_1503 ?_
  refine r_aload_n (pc := 1504) ok 3 dL_law_1504 rfl ?_
  refine r_iload_n (pc := 1505) ok 0 dL_law_1505 rfl ?_
  refine r_iconst (pc := 1506) ok 3 dL_law_1506 (by decide) ?_
  refine r_iadd (pc := 1507) ok dL_law_1507 ?_
  refine r_sld (pc := 1508) ok hX hbl hbA (k + 3) (ix_add 3 rfl (by omega) (by omega)) (by omega) dL_law_1508 ?_
  refine r_aload_n (pc := 1509) ok 3 dL_law_1509 rfl ?_
  refine r_iload_n (pc := 1510) ok 0 dL_law_1510 rfl ?_
  refine r_iconst (pc := 1511) ok 4 dL_law_1511 (by decide) ?_
  refine r_iadd (pc := 1512) ok dL_law_1512 ?_
  refine r_sld (pc := 1513) ok hX hbl hbA (k + 4) (ix_add 4 rfl (by omega) (by omega)) (by omega) dL_law_1513 ?_
  refine r_aload_n (pc := 1514) ok 3 dL_law_1514 rfl ?_
  refine r_iload_n (pc := 1515) ok 0 dL_law_1515 rfl ?_
  refine r_iconst (pc := 1516) ok 5 dL_law_1516 (by decide) ?_
  refine r_iadd (pc := 1517) ok dL_law_1517 ?_
  refine r_sld (pc := 1518) ok hX hbl hbA (k + 5) (ix_add 5 rfl (by omega) (by omega)) (by omega) dL_law_1518 ?_
  refine r_callV (pc := 1519) (K := 22) (i := 0) ok [.int (xs (k + 1)), .int (xs (k + 2)), .int (xs (k + 3)), .int (xs (k + 4)), .int (xs (k + 5))] [.int r1] (rmL 3) (fun rZ MZ hZ => con_X11_copy g l _ _ _ _ _ _ rZ MZ hZ) cv_L_162 ok_22 ⟨by decide, by decide, by show c + 1 ≤ 600000; omega, by show s + 160 ≤ 7302250; omega⟩ dL_law_1519 rfl rfl (Nat.le_of_ble_eq_true rfl) (fun r2 M2 => ?_)
  exact r_icmp_eq (pc := 1522) ok 1613 dL_law_1522 (by decide) (fun _ => hJ M2) (fun _ => r_vac (fun res hr t h => by cases hr; exact absurd (show (0 : Int32) = 1 from h) (by decide)))
def lwC35 (xs : Nat → Int32) (k : Nat) (J : Mem → Option (Int32 × Mem)) (M : Mem) : Option (Int32 × Mem) :=
  ob (fX10_peopleBy (xs (k + 1)) (xs (k + 2)) (xs (k + 3)) (xs (k + 4)) M) fun r1 M1 => ob (fX11_peopleBy (xs (k + 1)) (xs (k + 2)) (xs (k + 3)) (xs (k + 4)) M1) fun r2 M2 => if r1 = r2 then J M2 else some (0, M2)
set_option maxRecDepth 20000 in
theorem sC35 {g : GP} {l : Launch} {x : CT} {b L k c s : Nat} {xs : Nat → Int32} (ok : Ok g l x RL cL_law 4 (some .boolean) room_1) (hX : va_X b L xs (cxS x) (cxS x).heap) (hbl : b < (cxS x).heap.size) (hbA : ¬ gU g b) (hL : L ≤ 3584) (hk : k + 7 ≤ L) (hc : c + 1 ≤ 600000) (hs : s + 160 ≤ 7302250) (J : Mem → Option (Int32 × Mem)) (hJ : ∀ M, Sw g l x (lwQ x) 4 (c + 1) (s + 160) 1613 (lvL g b k) [] M (J M)) (M : Mem) : Sw g l x (lwQ x) 4 c s 1527 (lvL g b k) [] M (lwC35 xs k J M) := by
  unfold lwC35
  refine r_widen (c + 1) (s + 160) (by omega) (by omega) ?_
  refine r_aload_n (pc := 1527) ok 2 dL_law_1527 rfl ?_
  refine r_aload_n (pc := 1528) ok 3 dL_law_1528 rfl ?_
  refine r_iload_n (pc := 1529) ok 0 dL_law_1529 rfl ?_
  refine r_iconst (pc := 1530) ok 1 dL_law_1530 (by decide) ?_
  refine r_iadd (pc := 1531) ok dL_law_1531 ?_
  refine r_sld (pc := 1532) ok hX hbl hbA (k + 1) (ix_add 1 rfl (by omega) (by omega)) (by omega) dL_law_1532 ?_
  refine r_aload_n (pc := 1533) ok 3 dL_law_1533 rfl ?_
  refine r_iload_n (pc := 1534) ok 0 dL_law_1534 rfl ?_
  refine r_iconst (pc := 1535) ok 2 dL_law_1535 (by decide) ?_
  refine r_iadd (pc := 1536) ok dL_law_1536 ?_
  refine r_sld (pc := 1537) ok hX hbl hbA (k + 2) (ix_add 2 rfl (by omega) (by omega)) (by omega) dL_law_1537 ?_
  refine r_aload_n (pc := 1538) ok 3 dL_law_1538 rfl ?_
  refine r_iload_n (pc := 1539) ok 0 dL_law_1539 rfl ?_
  refine r_iconst (pc := 1540) ok 3 dL_law_1540 (by decide) ?_
  refine r_iadd (pc := 1541) ok dL_law_1541 ?_
  refine r_sld (pc := 1542) ok hX hbl hbA (k + 3) (ix_add 3 rfl (by omega) (by omega)) (by omega) dL_law_1542 ?_
  refine r_aload_n (pc := 1543) ok 3 dL_law_1543 rfl ?_
  refine r_iload_n (pc := 1544) ok 0 dL_law_1544 rfl ?_
  refine r_iconst (pc := 1545) ok 4 dL_law_1545 (by decide) ?_
  refine r_iadd (pc := 1546) ok dL_law_1546 ?_
  refine r_sld (pc := 1547) ok hX hbl hbA (k + 4) (ix_add 4 rfl (by omega) (by omega)) (by omega) dL_law_1547 ?_
  refine r_callV (pc := 1548) (K := 0) (i := 0) ok [.int (xs (k + 1)), .int (xs (k + 2)), .int (xs (k + 3)), .int (xs (k + 4))] [] (rmL 4) (fun rZ MZ hZ => con_X10_peopleBy g l _ _ _ _ _ rZ MZ hZ) cv_L_163 ok_0 ⟨by decide, by decide, by show c + 1 ≤ 600000; omega, by show s + 160 ≤ 7302250; omega⟩ dL_law_1548 rfl rfl (Nat.le_of_ble_eq_true rfl) (fun r1 M1 => ?_)
  refine r_aload_n (pc := 1551) ok 1 dL_law_1551 rfl ?_
  refine r_aload_n (pc := 1552) ok 3 dL_law_1552 rfl ?_
  refine r_iload_n (pc := 1553) ok 0 dL_law_1553 rfl ?_
  refine r_iconst (pc := 1554) ok 1 dL_law_1554 (by decide) ?_
  refine r_iadd (pc := 1555) ok dL_law_1555 ?_
  refine r_sld (pc := 1556) ok hX hbl hbA (k + 1) (ix_add 1 rfl (by omega) (by omega)) (by omega) dL_law_1556 ?_
  refine r_aload_n (pc := 1557) ok 3 dL_law_1557 rfl ?_
  refine r_iload_n (pc := 1558) ok 0 dL_law_1558 rfl ?_
  refine r_iconst (pc := 1559) ok 2 dL_law_1559 (by decide) ?_
  refine r_iadd (pc := 1560) ok dL_law_1560 ?_
  refine r_sld (pc := 1561) ok hX hbl hbA (k + 2) (ix_add 2 rfl (by omega) (by omega)) (by omega) dL_law_1561 ?_
  refine r_aload_n (pc := 1562) ok 3 dL_law_1562 rfl ?_
  refine r_iload_n (pc := 1563) ok 0 dL_law_1563 rfl ?_
  refine r_iconst (pc := 1564) ok 3 dL_law_1564 (by decide) ?_
  refine r_iadd (pc := 1565) ok dL_law_1565 ?_
  refine r_sld (pc := 1566) ok hX hbl hbA (k + 3) (ix_add 3 rfl (by omega) (by omega)) (by omega) dL_law_1566 ?_
  refine r_aload_n (pc := 1567) ok 3 dL_law_1567 rfl ?_
  refine r_iload_n (pc := 1568) ok 0 dL_law_1568 rfl ?_
  refine r_iconst (pc := 1569) ok 4 dL_law_1569 (by decide) ?_
  refine r_iadd (pc := 1570) ok dL_law_1570 ?_
  refine r_sld (pc := 1571) ok hX hbl hbA (k + 4) (ix_add 4 rfl (by omega) (by omega)) (by omega) dL_law_1571 ?_
  refine r_callV (pc := 1572) (K := 22) (i := 0) ok [.int (xs (k + 1)), .int (xs (k + 2)), .int (xs (k + 3)), .int (xs (k + 4))] [.int r1] (rmL 4) (fun rZ MZ hZ => con_X11_peopleBy g l _ _ _ _ _ rZ MZ hZ) cv_L_166 ok_22 ⟨by decide, by decide, by show c + 1 ≤ 600000; omega, by show s + 160 ≤ 7302250; omega⟩ dL_law_1572 rfl rfl (Nat.le_of_ble_eq_true rfl) (fun r2 M2 => ?_)
  exact r_icmp_eq (pc := 1575) ok 1613 dL_law_1575 (by decide) (fun _ => hJ M2) (fun _ => r_vac (fun res hr t h => by cases hr; exact absurd (show (0 : Int32) = 1 from h) (by decide)))
def lwC36 (xs : Nat → Int32) (k : Nat) (J : Mem → Option (Int32 × Mem)) (M : Mem) : Option (Int32 × Mem) :=
  ob (fX10_taken (xs (k + 1)) (xs (k + 2)) M) fun r1 M1 => ob (fX11_taken (xs (k + 1)) (xs (k + 2)) M1) fun r2 M2 => if r1 = r2 then J M2 else some (0, M2)
set_option maxRecDepth 20000 in
theorem sC36 {g : GP} {l : Launch} {x : CT} {b L k c s : Nat} {xs : Nat → Int32} (ok : Ok g l x RL cL_law 4 (some .boolean) room_1) (hX : va_X b L xs (cxS x) (cxS x).heap) (hbl : b < (cxS x).heap.size) (hbA : ¬ gU g b) (hL : L ≤ 3584) (hk : k + 7 ≤ L) (hc : c + 1 ≤ 600000) (hs : s + 160 ≤ 7302250) (J : Mem → Option (Int32 × Mem)) (hJ : ∀ M, Sw g l x (lwQ x) 4 (c + 1) (s + 160) 1613 (lvL g b k) [] M (J M)) (M : Mem) : Sw g l x (lwQ x) 4 c s 1580 (lvL g b k) [] M (lwC36 xs k J M) := by
  unfold lwC36
  refine r_widen (c + 1) (s + 160) (by omega) (by omega) ?_
  refine r_aload_n (pc := 1580) ok 2 dL_law_1580 rfl ?_
  refine r_aload_n (pc := 1581) ok 3 dL_law_1581 rfl ?_
  refine r_iload_n (pc := 1582) ok 0 dL_law_1582 rfl ?_
  refine r_iconst (pc := 1583) ok 1 dL_law_1583 (by decide) ?_
  refine r_iadd (pc := 1584) ok dL_law_1584 ?_
  refine r_sld (pc := 1585) ok hX hbl hbA (k + 1) (ix_add 1 rfl (by omega) (by omega)) (by omega) dL_law_1585 ?_
  refine r_aload_n (pc := 1586) ok 3 dL_law_1586 rfl ?_
  refine r_iload_n (pc := 1587) ok 0 dL_law_1587 rfl ?_
  refine r_iconst (pc := 1588) ok 2 dL_law_1588 (by decide) ?_
  refine r_iadd (pc := 1589) ok dL_law_1589 ?_
  refine r_sld (pc := 1590) ok hX hbl hbA (k + 2) (ix_add 2 rfl (by omega) (by omega)) (by omega) dL_law_1590 ?_
  refine r_callV (pc := 1591) (K := 0) (i := 0) ok [.int (xs (k + 1)), .int (xs (k + 2))] [] (rmL 6) (fun rZ MZ hZ => con_X10_taken g l _ _ _ rZ MZ hZ) cv_L_167 ok_0 ⟨by decide, by decide, by show c + 1 ≤ 600000; omega, by show s + 160 ≤ 7302250; omega⟩ dL_law_1591 rfl rfl (Nat.le_of_ble_eq_true rfl) (fun r1 M1 => ?_)
  refine r_aload_n (pc := 1594) ok 1 dL_law_1594 rfl ?_
  refine r_aload_n (pc := 1595) ok 3 dL_law_1595 rfl ?_
  refine r_iload_n (pc := 1596) ok 0 dL_law_1596 rfl ?_
  refine r_iconst (pc := 1597) ok 1 dL_law_1597 (by decide) ?_
  refine r_iadd (pc := 1598) ok dL_law_1598 ?_
  refine r_sld (pc := 1599) ok hX hbl hbA (k + 1) (ix_add 1 rfl (by omega) (by omega)) (by omega) dL_law_1599 ?_
  refine r_aload_n (pc := 1600) ok 3 dL_law_1600 rfl ?_
  refine r_iload_n (pc := 1601) ok 0 dL_law_1601 rfl ?_
  refine r_iconst (pc := 1602) ok 2 dL_law_1602 (by decide) ?_
  refine r_iadd (pc := 1603) ok dL_law_1603 ?_
  refine r_sld (pc := 1604) ok hX hbl hbA (k + 2) (ix_add 2 rfl (by omega) (by omega)) (by omega) dL_law_1604 ?_
  refine r_callV (pc := 1605) (K := 22) (i := 0) ok [.int (xs (k + 1)), .int (xs (k + 2))] [.int r1] (rmL 3) (fun rZ MZ hZ => con_X11_taken g l _ _ _ rZ MZ hZ) cv_L_170 ok_22 ⟨by decide, by decide, by show c + 1 ≤ 600000; omega, by show s + 160 ≤ 7302250; omega⟩ dL_law_1605 rfl rfl (Nat.le_of_ble_eq_true rfl) (fun r2 M2 => ?_)
  exact r_icmp_eq (pc := 1608) ok 1613 dL_law_1608 (by decide) (fun _ => hJ M2) (fun _ => r_vac (fun res hr t h => by cases hr; exact absurd (show (0 : Int32) = 1 from h) (by decide)))
def lwS (xs : Nat → Int32) (k : Nat) (J : Mem → Option (Int32 × Mem)) (M : Mem) : Option (Int32 × Mem) :=
  if xs k &&& 63 = 0 then lwC0 xs k J M else if xs k &&& 63 = 1 then lwC1 xs k J M else if xs k &&& 63 = 2 then lwC2 xs k J M else if xs k &&& 63 = 3 then lwC3 xs k J M else if xs k &&& 63 = 4 then lwC4 xs k J M else if xs k &&& 63 = 5 then lwC5 xs k J M else if xs k &&& 63 = 6 then lwC6 xs k J M else if xs k &&& 63 = 7 then lwC7 xs k J M else if xs k &&& 63 = 8 then lwC8 xs k J M else if xs k &&& 63 = 9 then lwC9 xs k J M else if xs k &&& 63 = 10 then lwC10 xs k J M else if xs k &&& 63 = 11 then lwC11 xs k J M else if xs k &&& 63 = 12 then lwC12 xs k J M else if xs k &&& 63 = 13 then lwC13 xs k J M else if xs k &&& 63 = 14 then lwC14 xs k J M else if xs k &&& 63 = 15 then lwC15 xs k J M else if xs k &&& 63 = 16 then lwC16 xs k J M else if xs k &&& 63 = 17 then lwC17 xs k J M else if xs k &&& 63 = 18 then lwC18 xs k J M else if xs k &&& 63 = 19 then lwC19 xs k J M else if xs k &&& 63 = 20 then lwC20 xs k J M else if xs k &&& 63 = 21 then lwC21 xs k J M else if xs k &&& 63 = 22 then lwC22 xs k J M else if xs k &&& 63 = 23 then lwC23 xs k J M else if xs k &&& 63 = 24 then lwC24 xs k J M else if xs k &&& 63 = 25 then lwC25 xs k J M else if xs k &&& 63 = 26 then lwC26 xs k J M else if xs k &&& 63 = 27 then lwC27 xs k J M else if xs k &&& 63 = 28 then lwC28 xs k J M else if xs k &&& 63 = 29 then lwC29 xs k J M else if xs k &&& 63 = 30 then lwC30 xs k J M else if xs k &&& 63 = 31 then lwC31 xs k J M else if xs k &&& 63 = 32 then lwC32 xs k J M else if xs k &&& 63 = 33 then lwC33 xs k J M else if xs k &&& 63 = 34 then lwC34 xs k J M else if xs k &&& 63 = 35 then lwC35 xs k J M else if xs k &&& 63 = 36 then lwC36 xs k J M else J M
set_option maxRecDepth 20000 in
theorem sS {g : GP} {l : Launch} {x : CT} {b L k c s : Nat} {xs : Nat → Int32} (ok : Ok g l x RL cL_law 4 (some .boolean) room_1) (hX : va_X b L xs (cxS x) (cxS x).heap) (hbl : b < (cxS x).heap.size) (hbA : ¬ gU g b) (hL : L ≤ 3584) (hk : k + 7 ≤ L) (hc : c + 1 ≤ 600000) (hs : s + 160 ≤ 7302250) (J : Mem → Option (Int32 × Mem)) (hJ : ∀ M, Sw g l x (lwQ x) 4 (c + 1) (s + 160) 1613 (lvL g b k) [] M (J M)) (M : Mem) : Sw g l x (lwQ x) 4 c s 33 (lvL g b k) [.int (xs k &&& 63)] M (lwS xs k J M) := by
  unfold lwS
  refine r_swc (pc := 33) ok (163) 196 dL_law_33 (by decide +kernel) (by decide) (fun _ => sC0 ok hX hbl hbA hL hk hc hs J hJ M) (fun h0 => ?_)
  refine r_swc (pc := 33) ok (186) 219 dL_law_33 (by decide +kernel) (by decide) (fun _ => sC1 ok hX hbl hbA hL hk hc hs J hJ M) (fun h1 => ?_)
  refine r_swc (pc := 33) ok (219) 252 dL_law_33 (by decide +kernel) (by decide) (fun _ => sC2 ok hX hbl hbA hL hk hc hs J hJ M) (fun h2 => ?_)
  refine r_swc (pc := 33) ok (242) 275 dL_law_33 (by decide +kernel) (by decide) (fun _ => sC3 ok hX hbl hbA hL hk hc hs J hJ M) (fun h3 => ?_)
  refine r_swc (pc := 33) ok (317) 350 dL_law_33 (by decide +kernel) (by decide) (fun _ => sC4 ok hX hbl hbA hL hk hc hs J hJ M) (fun h4 => ?_)
  refine r_swc (pc := 33) ok (330) 363 dL_law_33 (by decide +kernel) (by decide) (fun _ => sC5 ok hX hbl hbA hL hk hc hs J hJ M) (fun h5 => ?_)
  refine r_swc (pc := 33) ok (353) 386 dL_law_33 (by decide +kernel) (by decide) (fun _ => sC6 ok hX hbl hbA hL hk hc hs J hJ M) (fun h6 => ?_)
  refine r_swc (pc := 33) ok (396) 429 dL_law_33 (by decide +kernel) (by decide) (fun _ => sC7 ok hX hbl hbA hL hk hc hs J hJ M) (fun h7 => ?_)
  refine r_swc (pc := 33) ok (429) 462 dL_law_33 (by decide +kernel) (by decide) (fun _ => sC8 ok hX hbl hbA hL hk hc hs J hJ M) (fun h8 => ?_)
  refine r_swc (pc := 33) ok (472) 505 dL_law_33 (by decide +kernel) (by decide) (fun _ => sC9 ok hX hbl hbA hL hk hc hs J hJ M) (fun h9 => ?_)
  refine r_swc (pc := 33) ok (505) 538 dL_law_33 (by decide +kernel) (by decide) (fun _ => sC10 ok hX hbl hbA hL hk hc hs J hJ M) (fun h10 => ?_)
  refine r_swc (pc := 33) ok (518) 551 dL_law_33 (by decide +kernel) (by decide) (fun _ => sC11 ok hX hbl hbA hL hk hc hs J hJ M) (fun h11 => ?_)
  refine r_swc (pc := 33) ok (561) 594 dL_law_33 (by decide +kernel) (by decide) (fun _ => sC12 ok hX hbl hbA hL hk hc hs J hJ M) (fun h12 => ?_)
  refine r_swc (pc := 33) ok (594) 627 dL_law_33 (by decide +kernel) (by decide) (fun _ => sC13 ok hX hbl hbA hL hk hc hs J hJ M) (fun h13 => ?_)
  refine r_swc (pc := 33) ok (627) 660 dL_law_33 (by decide +kernel) (by decide) (fun _ => sC14 ok hX hbl hbA hL hk hc hs J hJ M) (fun h14 => ?_)
  refine r_swc (pc := 33) ok (670) 703 dL_law_33 (by decide +kernel) (by decide) (fun _ => sC15 ok hX hbl hbA hL hk hc hs J hJ M) (fun h15 => ?_)
  refine r_swc (pc := 33) ok (703) 736 dL_law_33 (by decide +kernel) (by decide) (fun _ => sC16 ok hX hbl hbA hL hk hc hs J hJ M) (fun h16 => ?_)
  refine r_swc (pc := 33) ok (756) 789 dL_law_33 (by decide +kernel) (by decide) (fun _ => sC17 ok hX hbl hbA hL hk hc hs J hJ M) (fun h17 => ?_)
  refine r_swc (pc := 33) ok (800) 833 dL_law_33 (by decide +kernel) (by decide) (fun _ => sC18 ok hX hbl hbA hL hk hc hs J hJ M) (fun h18 => ?_)
  refine r_swc (pc := 33) ok (833) 866 dL_law_33 (by decide +kernel) (by decide) (fun _ => sC19 ok hX hbl hbA hL hk hc hs J hJ M) (fun h19 => ?_)
  refine r_swc (pc := 33) ok (866) 899 dL_law_33 (by decide +kernel) (by decide) (fun _ => sC20 ok hX hbl hbA hL hk hc hs J hJ M) (fun h20 => ?_)
  refine r_swc (pc := 33) ok (909) 942 dL_law_33 (by decide +kernel) (by decide) (fun _ => sC21 ok hX hbl hbA hL hk hc hs J hJ M) (fun h21 => ?_)
  refine r_swc (pc := 33) ok (942) 975 dL_law_33 (by decide +kernel) (by decide) (fun _ => sC22 ok hX hbl hbA hL hk hc hs J hJ M) (fun h22 => ?_)
  refine r_swc (pc := 33) ok (995) 1028 dL_law_33 (by decide +kernel) (by decide) (fun _ => sC23 ok hX hbl hbA hL hk hc hs J hJ M) (fun h23 => ?_)
  refine r_swc (pc := 33) ok (1039) 1072 dL_law_33 (by decide +kernel) (by decide) (fun _ => sC24 ok hX hbl hbA hL hk hc hs J hJ M) (fun h24 => ?_)
  refine r_swc (pc := 33) ok (1092) 1125 dL_law_33 (by decide +kernel) (by decide) (fun _ => sC25 ok hX hbl hbA hL hk hc hs J hJ M) (fun h25 => ?_)
  refine r_swc (pc := 33) ok (1125) 1158 dL_law_33 (by decide +kernel) (by decide) (fun _ => sC26 ok hX hbl hbA hL hk hc hs J hJ M) (fun h26 => ?_)
  refine r_swc (pc := 33) ok (1168) 1201 dL_law_33 (by decide +kernel) (by decide) (fun _ => sC27 ok hX hbl hbA hL hk hc hs J hJ M) (fun h27 => ?_)
  refine r_swc (pc := 33) ok (1221) 1254 dL_law_33 (by decide +kernel) (by decide) (fun _ => sC28 ok hX hbl hbA hL hk hc hs J hJ M) (fun h28 => ?_)
  refine r_swc (pc := 33) ok (1285) 1318 dL_law_33 (by decide +kernel) (by decide) (fun _ => sC29 ok hX hbl hbA hL hk hc hs J hJ M) (fun h29 => ?_)
  refine r_swc (pc := 33) ok (1319) 1352 dL_law_33 (by decide +kernel) (by decide) (fun _ => sC30 ok hX hbl hbA hL hk hc hs J hJ M) (fun h30 => ?_)
  refine r_swc (pc := 33) ok (1332) 1365 dL_law_33 (by decide +kernel) (by decide) (fun _ => sC31 ok hX hbl hbA hL hk hc hs J hJ M) (fun h31 => ?_)
  refine r_swc (pc := 33) ok (1345) 1378 dL_law_33 (by decide +kernel) (by decide) (fun _ => sC32 ok hX hbl hbA hL hk hc hs J hJ M) (fun h32 => ?_)
  refine r_swc (pc := 33) ok (1388) 1421 dL_law_33 (by decide +kernel) (by decide) (fun _ => sC33 ok hX hbl hbA hL hk hc hs J hJ M) (fun h33 => ?_)
  refine r_swc (pc := 33) ok (1431) 1464 dL_law_33 (by decide +kernel) (by decide) (fun _ => sC34 ok hX hbl hbA hL hk hc hs J hJ M) (fun h34 => ?_)
  refine r_swc (pc := 33) ok (1494) 1527 dL_law_33 (by decide +kernel) (by decide) (fun _ => sC35 ok hX hbl hbA hL hk hc hs J hJ M) (fun h35 => ?_)
  refine r_swc (pc := 33) ok (1547) 1580 dL_law_33 (by decide +kernel) (by decide) (fun _ => sC36 ok hX hbl hbA hL hk hc hs J hJ M) (fun h36 => ?_)
  refine r_swd (pc := 33) ok 1613 dL_law_33 (by have := lv_neT h0 (by decide : (0 : Int32).toInt = 0) ; have := lv_neT h1 (by decide : (1 : Int32).toInt = 1) ; have := lv_neT h2 (by decide : (2 : Int32).toInt = 2) ; have := lv_neT h3 (by decide : (3 : Int32).toInt = 3) ; have := lv_neT h4 (by decide : (4 : Int32).toInt = 4) ; have := lv_neT h5 (by decide : (5 : Int32).toInt = 5) ; have := lv_neT h6 (by decide : (6 : Int32).toInt = 6) ; have := lv_neT h7 (by decide : (7 : Int32).toInt = 7) ; have := lv_neT h8 (by decide : (8 : Int32).toInt = 8) ; have := lv_neT h9 (by decide : (9 : Int32).toInt = 9) ; have := lv_neT h10 (by decide : (10 : Int32).toInt = 10) ; have := lv_neT h11 (by decide : (11 : Int32).toInt = 11) ; have := lv_neT h12 (by decide : (12 : Int32).toInt = 12) ; have := lv_neT h13 (by decide : (13 : Int32).toInt = 13) ; have := lv_neT h14 (by decide : (14 : Int32).toInt = 14) ; have := lv_neT h15 (by decide : (15 : Int32).toInt = 15) ; have := lv_neT h16 (by decide : (16 : Int32).toInt = 16) ; have := lv_neT h17 (by decide : (17 : Int32).toInt = 17) ; have := lv_neT h18 (by decide : (18 : Int32).toInt = 18) ; have := lv_neT h19 (by decide : (19 : Int32).toInt = 19) ; have := lv_neT h20 (by decide : (20 : Int32).toInt = 20) ; have := lv_neT h21 (by decide : (21 : Int32).toInt = 21) ; have := lv_neT h22 (by decide : (22 : Int32).toInt = 22) ; have := lv_neT h23 (by decide : (23 : Int32).toInt = 23) ; have := lv_neT h24 (by decide : (24 : Int32).toInt = 24) ; have := lv_neT h25 (by decide : (25 : Int32).toInt = 25) ; have := lv_neT h26 (by decide : (26 : Int32).toInt = 26) ; have := lv_neT h27 (by decide : (27 : Int32).toInt = 27) ; have := lv_neT h28 (by decide : (28 : Int32).toInt = 28) ; have := lv_neT h29 (by decide : (29 : Int32).toInt = 29) ; have := lv_neT h30 (by decide : (30 : Int32).toInt = 30) ; have := lv_neT h31 (by decide : (31 : Int32).toInt = 31) ; have := lv_neT h32 (by decide : (32 : Int32).toInt = 32) ; have := lv_neT h33 (by decide : (33 : Int32).toInt = 33) ; have := lv_neT h34 (by decide : (34 : Int32).toInt = 34) ; have := lv_neT h35 (by decide : (35 : Int32).toInt = 35) ; have := lv_neT h36 (by decide : (36 : Int32).toInt = 36) ; omega) (by decide) ?_
  exact r_widen (c + 1) (s + 160) (by omega) (by omega) (hJ M)
def lawF (xs : Nat → Int32) (L : Nat) : Nat → Nat → Mem → Option (Int32 × Mem)
  | 0, _, _ => none
  | n + 1, k, M => if L < k + 7 then some (1, M) else lwS xs k (fun M2 => lawF xs L n (k + 7) M2) M
theorem r_lawret {g : GP} {l : Launch} {p : Program} {e : Env} {s : State} {m : MethodId} {below : List Frame} {meth : Method} {cd : Code} {b nL c sl pc : Nat} {lv : List (Nat × Value)} {M : Mem} (hx : p.tables.exec = Jvm.exec) (hb : cd.code = code) (hr : meth.sig.returnType = ret) (hlk : meth.locks = false) (hg : s.heap.size ≤ gB g) (hc : c ≤ 600000) (hs : sl ≤ 7302250) (hd : decode code pc = .ok (.ireturn, 1)) : Sw g l (p, e, room_1, s, m, #[.ref b], below, meth, cd) (lwQ (p, e, room_1, s, m, #[.ref b], below, meth, cd)) nL c sl pc lv [.int 1] M (some (1, M)) := by
  intro res hre H locs ls hW hS hL
  refine va_forget (fun q hq => Nat.le_trans hg (hS.2.2 q hq)) (W.widen hc hs ?_)
  intro T hT X
  obtain ⟨t, st, hz⟩ := lw_ret (l := l) hx hb hr hlk hd T hT X
  exact ⟨t, st, fun _ => hz⟩
set_option maxRecDepth 20000 in
theorem sL {g : GP} {l : Launch} {p : Program} {e : Env} {s : State} {m : MethodId} {below : List Frame} {meth : Method} {cd : Code} {b L : Nat} {xs : Nat → Int32} (ok : Ok g l (p, e, room_1, s, m, #[.ref b], below, meth, cd) RL cL_law 4 (some .boolean) room_1) (hX : va_X b L xs s s.heap) (hbl : b < s.heap.size) (hbA : ¬ gU g b) (hg : s.heap.size ≤ gB g) (hL : L ≤ 3584) : ∀ (n k c sl : Nat) (M : Mem), c + n ≤ 600000 → sl + 160 * n ≤ 7302250 → k ≤ L → Sw g l (p, e, room_1, s, m, #[.ref b], below, meth, cd) (lwQ (p, e, room_1, s, m, #[.ref b], below, meth, cd)) 4 c sl 18 (lvL g b k) [] M (lawF xs L n k M) := by
  intro n
  induction n with
  | zero => intro k c sl M _ _ _ res hr; cases hr
  | succ n ih =>
    intro k c sl M hc hs hk
    unfold lawF
    refine r_iload_n (pc := 18) ok 0 dL_law_18 rfl ?_
    refine r_aload_n (pc := 19) ok 3 dL_law_19 rfl ?_
    refine r_slen (pc := 20) ok hX hbl hbA dL_law_20 ?_
    refine r_bipush (pc := 21) ok 7 dL_law_21 (by decide) ?_
    refine r_isub (pc := 23) ok dL_law_23 ?_
    rw [if_iff (law_cond hL hk)]
    refine r_icmp_gt (pc := 24) ok 1619 dL_law_24 (by decide) (fun _ => ?_) (fun hn => ?_)
    · refine r_iconst (pc := 1619) ok 1 dL_law_1619 (by decide) ?_
      exact r_lawret ok.1 ok.2.1 ok.2.2.2.2.2.1 ok.2.2.2.2.2.2.1 hg (by omega) (by omega) dL_law_1620
    · have hk7 : k + 7 ≤ L := by have := mt (law_cond hL hk).mp hn; omega
      refine r_aload_n (pc := 27) ok 3 dL_law_27 rfl ?_
      refine r_iload_n (pc := 28) ok 0 dL_law_28 rfl ?_
      refine r_sld (pc := 29) ok hX hbl hbA k (ix_0 (by omega)) (by omega) dL_law_29 ?_
      refine r_bipush (pc := 30) ok 63 dL_law_30 (by decide) ?_
      refine r_iand (pc := 32) ok dL_law_32 ?_
      refine sS ok hX hbl hbA hL hk7 (by omega) (by omega) _ (fun M2 => ?_) M
      refine r_iinc (pc := 1613) ok 0 (Int32.ofNat (k + 7)) (lvL g b (k + 7)) dL_law_1613 rfl (by rw [Int32.ofNat_add]; rfl) (by decide) rfl ?_
      refine r_goto (pc := 1616) ok 18 dL_law_1616 (by decide) ?_
      exact ih (k + 7) (c + 1) (sl + 160) M2 (by omega) (by omega) (by omega)
