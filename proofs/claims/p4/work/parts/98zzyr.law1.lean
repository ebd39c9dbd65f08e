/-! THE CLAIM OUT OF ONE WALK OF THE LAW'S BODY. Your part is whole_start (and what it stands on); all else here is the same for every law, but numbers. -/
def R_law : String := "ModuleCheckLaw"
def lw_P (b : Addr) (xs : List Int32) (args : Array Value) (s : State) : Prop := args = #[.ref b] ∧ s.IntsAt b xs ∧ xs.length ≤ 3072 ∧ (Jvm.Cond.and given_1 narrow_1).before args s = true
def lw_Q (_ : Array Value) (s : State) (o : Outcome) (t : State) : Prop := o = .returned (some (.int 1)) ∧ Framed s o t [] 1162 158744
def lw_Z (below : List Frame) (a : Array Value) (s : State) : State → Prop := fun t => ∃ o, t.status = .running ∧ Ended t below o ∧ lw_Q a s o t
/-- the law's own end, with 1 on the stack, nothing written that was there before, its room as the claim has it -/
theorem lw_ret {p : Program} {l : Launch} {e : Env} {s : State} {m : MethodId} {below : List Frame} {meth : Method} {c : Code} {b : Nat} (hx : p.tables.exec = Jvm.exec) (hb : c.code = code) (hr : meth.sig.returnType = ret) (hlocks : meth.locks = false) {pc : Nat} {H : Heap} {ls : Array Slot} (hdg : decode code pc = .ok (.ireturn, 1)) : W p l e room_1 s m #[Value.ref b] below meth c H [] 1162 158744 (lw_Z below #[Value.ref b] s) (F0 m pc ls [.int 1]) := by
  intro T hT X
  obtain ⟨fs, hret, hrun, hended, hW, hframe⟩ := X.leave (v := some (.int 1)) (hlocks := hlocks) (fun h => by rw [hr] at h; cases h)
  have hmeth' : T.vm.method? m = some meth := X.method'
  refine ⟨T.setFrames fs, ?_, .returned (some (.int 1)), hrun, hended, rfl, ⟨_, rfl⟩, hW, hframe⟩
  jvm_step X.here [X.here.top, hx, hb, hdg, hmeth', hr, ret, narrow_b1]
  (try refine ⟨rfl, ?_⟩); (try refine ⟨rfl, ?_⟩)
  first | (intro acts; rw [hret _ acts rfl rfl rfl]) | rw [hret _ _ rfl rfl rfl]
  exact Steps.refl _
/-- what holds at the law's entry: the machine, the code, the tables' words (any of lw_tbl by 'hts w (by decide +kernel)'), the script of L ints xs at the cell b, what the Statement gives of the start (any of its parts by flat_of_before) -/
def lw_At (p : Program) (s : State) (m : MethodId) (meth : Method) (c : Code) (b L : Nat) (xs : Nat → Int32) : Prop :=
  p.tables.exec = Jvm.exec ∧ c.code = code ∧ meth.sig.returnType = ret ∧ c.maxLocals = 4 ∧ s.vm.findClass R_law = some m.cls ∧ (∀ w ∈ lw_tbl, w.before #[Value.ref b] s = true) ∧ va_X b L xs s s.heap ∧ b < s.heap.size ∧ meth.locks = false ∧ (Jvm.Cond.and given_1 narrow_1).before #[Value.ref b] s = true
theorem dl_0 : decode code 0 = .ok (.new 7, 3) := by decide +kernel
theorem dl_3 : decode code 3 = .ok (.dup, 1) := by decide +kernel
theorem dl_4 : decode code 4 = .ok (.invokespecial 9, 3) := by decide +kernel
theorem dl_7 : decode code 7 = .ok (.astore_n 1, 1) := by decide +kernel
theorem dl_8 : decode code 8 = .ok (.new 10, 3) := by decide +kernel
theorem dl_11 : decode code 11 = .ok (.dup, 1) := by decide +kernel
theorem dl_12 : decode code 12 = .ok (.invokespecial 12, 3) := by decide +kernel
theorem dl_15 : decode code 15 = .ok (.astore_n 2, 1) := by decide +kernel
theorem dl_16 : decode code 16 = .ok (.iconst 0, 1) := by decide +kernel
theorem dl_17 : decode code 17 = .ok (.istore_n 3, 1) := by decide +kernel
theorem dl_18 : decode code 18 = .ok (.iload_n 3, 1) := by decide +kernel
theorem dl_19 : decode code 19 = .ok (.aload_n 0, 1) := by decide +kernel
theorem dl_20 : decode code 20 = .ok (.arraylength, 1) := by decide +kernel
theorem dl_21 : decode code 21 = .ok (.bipush 6, 2) := by decide +kernel
theorem dl_23 : decode code 23 = .ok (.isub, 1) := by decide +kernel
theorem dl_24 : decode code 24 = .ok (.if_icmp .gt 276, 3) := by decide +kernel
theorem dl_27 : decode code 27 = .ok (.aload_n 0, 1) := by decide +kernel
theorem dl_28 : decode code 28 = .ok (.iload_n 3, 1) := by decide +kernel
theorem dl_29 : decode code 29 = .ok (.iaload, 1) := by decide +kernel
theorem dl_30 : decode code 30 = .ok (.bipush 7, 2) := by decide +kernel
theorem dl_32 : decode code 32 = .ok (.iand, 1) := by decide +kernel
theorem dl_33 : decode code 33 = .ok (.tableswitch 261 0 7 #[47, 110, 133, 146, 159, 182, 205, 238], 47) := by decide +kernel
theorem dl_80 : decode code 80 = .ok (.aload_n 1, 1) := by decide +kernel
theorem dl_81 : decode code 81 = .ok (.aload_n 0, 1) := by decide +kernel
theorem dl_82 : decode code 82 = .ok (.iload_n 3, 1) := by decide +kernel
theorem dl_83 : decode code 83 = .ok (.iconst 1, 1) := by decide +kernel
theorem dl_84 : decode code 84 = .ok (.iadd, 1) := by decide +kernel
theorem dl_85 : decode code 85 = .ok (.iaload, 1) := by decide +kernel
theorem dl_86 : decode code 86 = .ok (.aload_n 0, 1) := by decide +kernel
theorem dl_87 : decode code 87 = .ok (.iload_n 3, 1) := by decide +kernel
theorem dl_88 : decode code 88 = .ok (.iconst 2, 1) := by decide +kernel
theorem dl_89 : decode code 89 = .ok (.iadd, 1) := by decide +kernel
theorem dl_90 : decode code 90 = .ok (.iaload, 1) := by decide +kernel
theorem dl_91 : decode code 91 = .ok (.aload_n 0, 1) := by decide +kernel
theorem dl_92 : decode code 92 = .ok (.iload_n 3, 1) := by decide +kernel
theorem dl_93 : decode code 93 = .ok (.iconst 3, 1) := by decide +kernel
theorem dl_94 : decode code 94 = .ok (.iadd, 1) := by decide +kernel
theorem dl_95 : decode code 95 = .ok (.iaload, 1) := by decide +kernel
theorem dl_96 : decode code 96 = .ok (.aload_n 0, 1) := by decide +kernel
theorem dl_97 : decode code 97 = .ok (.iload_n 3, 1) := by decide +kernel
theorem dl_98 : decode code 98 = .ok (.iconst 4, 1) := by decide +kernel
theorem dl_99 : decode code 99 = .ok (.iadd, 1) := by decide +kernel
theorem dl_100 : decode code 100 = .ok (.iaload, 1) := by decide +kernel
theorem dl_101 : decode code 101 = .ok (.aload_n 0, 1) := by decide +kernel
theorem dl_102 : decode code 102 = .ok (.iload_n 3, 1) := by decide +kernel
theorem dl_103 : decode code 103 = .ok (.iconst 5, 1) := by decide +kernel
theorem dl_104 : decode code 104 = .ok (.iadd, 1) := by decide +kernel
theorem dl_105 : decode code 105 = .ok (.iaload, 1) := by decide +kernel
theorem dl_106 : decode code 106 = .ok (.invokevirtual 13, 3) := by decide +kernel
theorem dl_109 : decode code 109 = .ok (.pop, 1) := by decide +kernel
theorem dl_110 : decode code 110 = .ok (.aload_n 2, 1) := by decide +kernel
theorem dl_111 : decode code 111 = .ok (.aload_n 0, 1) := by decide +kernel
theorem dl_112 : decode code 112 = .ok (.iload_n 3, 1) := by decide +kernel
theorem dl_113 : decode code 113 = .ok (.iconst 1, 1) := by decide +kernel
theorem dl_114 : decode code 114 = .ok (.iadd, 1) := by decide +kernel
theorem dl_115 : decode code 115 = .ok (.iaload, 1) := by decide +kernel
theorem dl_116 : decode code 116 = .ok (.aload_n 0, 1) := by decide +kernel
theorem dl_117 : decode code 117 = .ok (.iload_n 3, 1) := by decide +kernel
theorem dl_118 : decode code 118 = .ok (.iconst 2, 1) := by decide +kernel
theorem dl_119 : decode code 119 = .ok (.iadd, 1) := by decide +kernel
theorem dl_120 : decode code 120 = .ok (.iaload, 1) := by decide +kernel
theorem dl_121 : decode code 121 = .ok (.aload_n 0, 1) := by decide +kernel
theorem dl_122 : decode code 122 = .ok (.iload_n 3, 1) := by decide +kernel
theorem dl_123 : decode code 123 = .ok (.iconst 3, 1) := by decide +kernel
theorem dl_124 : decode code 124 = .ok (.iadd, 1) := by decide +kernel
theorem dl_125 : decode code 125 = .ok (.iaload, 1) := by decide +kernel
theorem dl_126 : decode code 126 = .ok (.aload_n 0, 1) := by decide +kernel
theorem dl_127 : decode code 127 = .ok (.iload_n 3, 1) := by decide +kernel
theorem dl_128 : decode code 128 = .ok (.iconst 4, 1) := by decide +kernel
theorem dl_129 : decode code 129 = .ok (.iadd, 1) := by decide +kernel
theorem dl_130 : decode code 130 = .ok (.iaload, 1) := by decide +kernel
theorem dl_131 : decode code 131 = .ok (.aload_n 0, 1) := by decide +kernel
theorem dl_132 : decode code 132 = .ok (.iload_n 3, 1) := by decide +kernel
theorem dl_133 : decode code 133 = .ok (.iconst 5, 1) := by decide +kernel
theorem dl_134 : decode code 134 = .ok (.iadd, 1) := by decide +kernel
theorem dl_135 : decode code 135 = .ok (.iaload, 1) := by decide +kernel
theorem dl_136 : decode code 136 = .ok (.invokevirtual 17, 3) := by decide +kernel
theorem dl_139 : decode code 139 = .ok (.pop, 1) := by decide +kernel
theorem dl_140 : decode code 140 = .ok (.goto 154, 3) := by decide +kernel
theorem dl_143 : decode code 143 = .ok (.aload_n 1, 1) := by decide +kernel
theorem dl_144 : decode code 144 = .ok (.aload_n 0, 1) := by decide +kernel
theorem dl_145 : decode code 145 = .ok (.iload_n 3, 1) := by decide +kernel
theorem dl_146 : decode code 146 = .ok (.iconst 1, 1) := by decide +kernel
theorem dl_147 : decode code 147 = .ok (.iadd, 1) := by decide +kernel
theorem dl_148 : decode code 148 = .ok (.iaload, 1) := by decide +kernel
theorem dl_149 : decode code 149 = .ok (.invokevirtual 18, 3) := by decide +kernel
theorem dl_152 : decode code 152 = .ok (.pop, 1) := by decide +kernel
theorem dl_153 : decode code 153 = .ok (.aload_n 2, 1) := by decide +kernel
theorem dl_154 : decode code 154 = .ok (.aload_n 0, 1) := by decide +kernel
theorem dl_155 : decode code 155 = .ok (.iload_n 3, 1) := by decide +kernel
theorem dl_156 : decode code 156 = .ok (.iconst 1, 1) := by decide +kernel
theorem dl_157 : decode code 157 = .ok (.iadd, 1) := by decide +kernel
theorem dl_158 : decode code 158 = .ok (.iaload, 1) := by decide +kernel
theorem dl_159 : decode code 159 = .ok (.invokevirtual 22, 3) := by decide +kernel
theorem dl_162 : decode code 162 = .ok (.pop, 1) := by decide +kernel
theorem dl_163 : decode code 163 = .ok (.goto 131, 3) := by decide +kernel
theorem dl_166 : decode code 166 = .ok (.aload_n 1, 1) := by decide +kernel
theorem dl_167 : decode code 167 = .ok (.invokevirtual 23, 3) := by decide +kernel
theorem dl_170 : decode code 170 = .ok (.aload_n 2, 1) := by decide +kernel
theorem dl_171 : decode code 171 = .ok (.invokevirtual 27, 3) := by decide +kernel
theorem dl_174 : decode code 174 = .ok (.if_icmp .eq 120, 3) := by decide +kernel
theorem dl_177 : decode code 177 = .ok (.iconst 0, 1) := by decide +kernel
theorem dl_178 : decode code 178 = .ok (.ireturn, 1) := by decide +kernel
theorem dl_179 : decode code 179 = .ok (.aload_n 1, 1) := by decide +kernel
theorem dl_180 : decode code 180 = .ok (.invokevirtual 28, 3) := by decide +kernel
theorem dl_183 : decode code 183 = .ok (.pop, 1) := by decide +kernel
theorem dl_184 : decode code 184 = .ok (.aload_n 2, 1) := by decide +kernel
theorem dl_185 : decode code 185 = .ok (.invokevirtual 31, 3) := by decide +kernel
theorem dl_188 : decode code 188 = .ok (.pop, 1) := by decide +kernel
theorem dl_189 : decode code 189 = .ok (.goto 105, 3) := by decide +kernel
theorem dl_192 : decode code 192 = .ok (.aload_n 1, 1) := by decide +kernel
theorem dl_193 : decode code 193 = .ok (.aload_n 0, 1) := by decide +kernel
theorem dl_194 : decode code 194 = .ok (.iload_n 3, 1) := by decide +kernel
theorem dl_195 : decode code 195 = .ok (.iconst 1, 1) := by decide +kernel
theorem dl_196 : decode code 196 = .ok (.iadd, 1) := by decide +kernel
theorem dl_197 : decode code 197 = .ok (.iaload, 1) := by decide +kernel
theorem dl_198 : decode code 198 = .ok (.invokevirtual 32, 3) := by decide +kernel
theorem dl_201 : decode code 201 = .ok (.pop, 1) := by decide +kernel
theorem dl_202 : decode code 202 = .ok (.aload_n 2, 1) := by decide +kernel
theorem dl_203 : decode code 203 = .ok (.aload_n 0, 1) := by decide +kernel
theorem dl_204 : decode code 204 = .ok (.iload_n 3, 1) := by decide +kernel
theorem dl_205 : decode code 205 = .ok (.iconst 1, 1) := by decide +kernel
theorem dl_206 : decode code 206 = .ok (.iadd, 1) := by decide +kernel
theorem dl_207 : decode code 207 = .ok (.iaload, 1) := by decide +kernel
theorem dl_208 : decode code 208 = .ok (.invokevirtual 36, 3) := by decide +kernel
theorem dl_211 : decode code 211 = .ok (.pop, 1) := by decide +kernel
theorem dl_212 : decode code 212 = .ok (.goto 82, 3) := by decide +kernel
theorem dl_215 : decode code 215 = .ok (.aload_n 1, 1) := by decide +kernel
theorem dl_216 : decode code 216 = .ok (.aload_n 0, 1) := by decide +kernel
theorem dl_217 : decode code 217 = .ok (.iload_n 3, 1) := by decide +kernel
theorem dl_218 : decode code 218 = .ok (.iconst 1, 1) := by decide +kernel
theorem dl_219 : decode code 219 = .ok (.iadd, 1) := by decide +kernel
theorem dl_220 : decode code 220 = .ok (.iaload, 1) := by decide +kernel
theorem dl_221 : decode code 221 = .ok (.invokevirtual 37, 3) := by decide +kernel
theorem dl_224 : decode code 224 = .ok (.pop, 1) := by decide +kernel
theorem dl_225 : decode code 225 = .ok (.aload_n 2, 1) := by decide +kernel
theorem dl_226 : decode code 226 = .ok (.aload_n 0, 1) := by decide +kernel
theorem dl_227 : decode code 227 = .ok (.iload_n 3, 1) := by decide +kernel
theorem dl_228 : decode code 228 = .ok (.iconst 1, 1) := by decide +kernel
theorem dl_229 : decode code 229 = .ok (.iadd, 1) := by decide +kernel
theorem dl_230 : decode code 230 = .ok (.iaload, 1) := by decide +kernel
theorem dl_231 : decode code 231 = .ok (.invokevirtual 40, 3) := by decide +kernel
theorem dl_234 : decode code 234 = .ok (.pop, 1) := by decide +kernel
theorem dl_235 : decode code 235 = .ok (.goto 59, 3) := by decide +kernel
theorem dl_238 : decode code 238 = .ok (.aload_n 1, 1) := by decide +kernel
theorem dl_239 : decode code 239 = .ok (.aload_n 0, 1) := by decide +kernel
theorem dl_240 : decode code 240 = .ok (.iload_n 3, 1) := by decide +kernel
theorem dl_241 : decode code 241 = .ok (.iconst 1, 1) := by decide +kernel
theorem dl_242 : decode code 242 = .ok (.iadd, 1) := by decide +kernel
theorem dl_243 : decode code 243 = .ok (.iaload, 1) := by decide +kernel
theorem dl_244 : decode code 244 = .ok (.aload_n 0, 1) := by decide +kernel
theorem dl_245 : decode code 245 = .ok (.iload_n 3, 1) := by decide +kernel
theorem dl_246 : decode code 246 = .ok (.iconst 2, 1) := by decide +kernel
theorem dl_247 : decode code 247 = .ok (.iadd, 1) := by decide +kernel
theorem dl_248 : decode code 248 = .ok (.iaload, 1) := by decide +kernel
theorem dl_249 : decode code 249 = .ok (.invokevirtual 41, 3) := by decide +kernel
theorem dl_252 : decode code 252 = .ok (.pop, 1) := by decide +kernel
theorem dl_253 : decode code 253 = .ok (.aload_n 2, 1) := by decide +kernel
theorem dl_254 : decode code 254 = .ok (.aload_n 0, 1) := by decide +kernel
theorem dl_255 : decode code 255 = .ok (.iload_n 3, 1) := by decide +kernel
theorem dl_256 : decode code 256 = .ok (.iconst 1, 1) := by decide +kernel
theorem dl_257 : decode code 257 = .ok (.iadd, 1) := by decide +kernel
theorem dl_258 : decode code 258 = .ok (.iaload, 1) := by decide +kernel
theorem dl_259 : decode code 259 = .ok (.aload_n 0, 1) := by decide +kernel
theorem dl_260 : decode code 260 = .ok (.iload_n 3, 1) := by decide +kernel
theorem dl_261 : decode code 261 = .ok (.iconst 2, 1) := by decide +kernel
theorem dl_262 : decode code 262 = .ok (.iadd, 1) := by decide +kernel
theorem dl_263 : decode code 263 = .ok (.iaload, 1) := by decide +kernel
theorem dl_264 : decode code 264 = .ok (.invokevirtual 45, 3) := by decide +kernel
theorem dl_267 : decode code 267 = .ok (.pop, 1) := by decide +kernel
theorem dl_268 : decode code 268 = .ok (.goto 26, 3) := by decide +kernel
theorem dl_271 : decode code 271 = .ok (.aload_n 1, 1) := by decide +kernel
theorem dl_272 : decode code 272 = .ok (.aload_n 0, 1) := by decide +kernel
theorem dl_273 : decode code 273 = .ok (.iload_n 3, 1) := by decide +kernel
theorem dl_274 : decode code 274 = .ok (.iconst 1, 1) := by decide +kernel
theorem dl_275 : decode code 275 = .ok (.iadd, 1) := by decide +kernel
theorem dl_276 : decode code 276 = .ok (.iaload, 1) := by decide +kernel
theorem dl_277 : decode code 277 = .ok (.invokevirtual 46, 3) := by decide +kernel
theorem dl_280 : decode code 280 = .ok (.pop, 1) := by decide +kernel
theorem dl_281 : decode code 281 = .ok (.aload_n 2, 1) := by decide +kernel
theorem dl_282 : decode code 282 = .ok (.aload_n 0, 1) := by decide +kernel
theorem dl_283 : decode code 283 = .ok (.iload_n 3, 1) := by decide +kernel
theorem dl_284 : decode code 284 = .ok (.iconst 1, 1) := by decide +kernel
theorem dl_285 : decode code 285 = .ok (.iadd, 1) := by decide +kernel
theorem dl_286 : decode code 286 = .ok (.iaload, 1) := by decide +kernel
theorem dl_287 : decode code 287 = .ok (.invokevirtual 49, 3) := by decide +kernel
theorem dl_290 : decode code 290 = .ok (.pop, 1) := by decide +kernel
theorem dl_291 : decode code 291 = .ok (.goto 3, 3) := by decide +kernel
theorem dl_294 : decode code 294 = .ok (.iinc 3 6, 3) := by decide +kernel
theorem dl_297 : decode code 297 = .ok (.goto (-279), 3) := by decide +kernel
theorem dl_300 : decode code 300 = .ok (.iconst 1, 1) := by decide +kernel
theorem dl_301 : decode code 301 = .ok (.ireturn, 1) := by decide +kernel
/-- the bytes of a case's number -/
theorem lw_and7 (x : Int32) : ∃ k, k < 8 ∧ x &&& 7 = nI k := by
  refine ⟨(x.toBitVec &&& 7#32).toNat, ?_, ?_⟩
  · rw [BitVec.toNat_and]
    exact Nat.lt_of_le_of_lt Nat.and_le_right (by decide)
  · apply Int32.toBitVec_inj.1
    show x.toBitVec &&& 7#32 = BitVec.ofNat 32 (x.toBitVec &&& 7#32).toNat
    rw [BitVec.ofNat_toNat, BitVec.setWidth_eq]
theorem lw_more {L i : Nat} (hL : L < 2 ^ 20) (hi : i < 2 ^ 20) : nI L - (6 : Int32) < nI i ↔ L < i + 6 := by
  rw [Int32.lt_iff_toInt_lt, show (6 : Int32) = nI 6 from rfl, pk_sub_toInt (by omega) (by decide), nI_toInt (by omega)]
  omega
set_option maxRecDepth 20000 in
theorem law_0 {p : Program} {e : Env} {s : State} {m : MethodId} {below : List Frame} {meth : Method} {c : Code} {l : Launch} {b L : Nat} {xs : Nat → Int32} {Q : State → Prop} (hL : L < 2 ^ 20) (C0 : lw_At p s m meth c b L xs) {i : Nat} (hi : i + 6 ≤ L) {σC σM : zS} {GC GM : zG} (E : lwEnv s GC GM) {H : Heap} {locs : List Loc} (hHC : zHd zZC GC σC H) (hHM : zHd zZM GM σM H) (hS : va_S (lwA s) s.heap H locs) {ls : Array Slot} (hl : lv_has ls 4 [(0, .ref b), (1, .ref (GC.2.2 0)), (2, .ref (GM.2.2 0)), (3, .int (nI i))])
    (PC PM : zS → Prop) (hC : zCT zZC zmX8_feed [.ref 0, .int (xs (i + 1)), .int (xs (i + 2)), .int (xs (i + 3)), .int (xs (i + 4)), .int (xs (i + 5))] σC (zQi (fun _ s => PC s)) (fun _ => False)) (hM : zCT zZM zmX10_feed [.ref 0, .int (xs (i + 1)), .int (xs (i + 2)), .int (xs (i + 3)), .int (xs (i + 4)), .int (xs (i + 5))] σM (zQi (fun _ s => PM s)) (fun _ => False))
    (kk : ∀ (σC' σM' : zS) (GM' : zG) (H' : Heap) (locs' : List Loc), (GM' = GM ∨ GM' = zGsw GM) → PC σC' → PM σM' → zHd zZC GC σC' H' → zHd zZM GM' σM' H' → va_S (lwA s) s.heap H' locs' → W p l e room_1 s m #[Value.ref b] below meth c H' locs' 138 150552 Q (F0 m 294 ls [])) :
    W p l e room_1 s m #[Value.ref b] below meth c H locs 138 150552 Q (F0 m 80 ls []) := by
  obtain ⟨hx, hb, hr, hml, hown, hts, hX, hbl, hlocks, hgv⟩ := id C0
  have hbA : ¬ lwA s b := Nat.not_le.mpr hbl
  refine lv_aload_n hx hb (k := 1) dl_80 rfl (lv_at hl 1 rfl) ?_
  refine lv_aload_n hx hb (k := 0) dl_81 rfl (lv_at hl 0 rfl) ?_
  refine lv_iload_n hx hb (k := 3) dl_82 rfl (lv_at hl 3 rfl) ?_
  refine lv_iconst hx hb (n := 1) (v := 1) dl_83 (by decide) ?_
  refine lv_iadd hx hb dl_84 ?_
  rw [show nI i + (1 : Int32) = nI (i + 1) from nI_add i 1]
  refine va_sld hx hb hX hbl hbA hS (vp_in_nI (by omega) (by omega)) dl_85 ?_
  rw [nI_clamp (by omega)]
  refine lv_aload_n hx hb (k := 0) dl_86 rfl (lv_at hl 0 rfl) ?_
  refine lv_iload_n hx hb (k := 3) dl_87 rfl (lv_at hl 3 rfl) ?_
  refine lv_iconst hx hb (n := 2) (v := 2) dl_88 (by decide) ?_
  refine lv_iadd hx hb dl_89 ?_
  rw [show nI i + (2 : Int32) = nI (i + 2) from nI_add i 2]
  refine va_sld hx hb hX hbl hbA hS (vp_in_nI (by omega) (by omega)) dl_90 ?_
  rw [nI_clamp (by omega)]
  refine lv_aload_n hx hb (k := 0) dl_91 rfl (lv_at hl 0 rfl) ?_
  refine lv_iload_n hx hb (k := 3) dl_92 rfl (lv_at hl 3 rfl) ?_
  refine lv_iconst hx hb (n := 3) (v := 3) dl_93 (by decide) ?_
  refine lv_iadd hx hb dl_94 ?_
  rw [show nI i + (3 : Int32) = nI (i + 3) from nI_add i 3]
  refine va_sld hx hb hX hbl hbA hS (vp_in_nI (by omega) (by omega)) dl_95 ?_
  rw [nI_clamp (by omega)]
  refine lv_aload_n hx hb (k := 0) dl_96 rfl (lv_at hl 0 rfl) ?_
  refine lv_iload_n hx hb (k := 3) dl_97 rfl (lv_at hl 3 rfl) ?_
  refine lv_iconst hx hb (n := 4) (v := 4) dl_98 (by decide) ?_
  refine lv_iadd hx hb dl_99 ?_
  rw [show nI i + (4 : Int32) = nI (i + 4) from nI_add i 4]
  refine va_sld hx hb hX hbl hbA hS (vp_in_nI (by omega) (by omega)) dl_100 ?_
  rw [nI_clamp (by omega)]
  refine lv_aload_n hx hb (k := 0) dl_101 rfl (lv_at hl 0 rfl) ?_
  refine lv_iload_n hx hb (k := 3) dl_102 rfl (lv_at hl 3 rfl) ?_
  refine lv_iconst hx hb (n := 5) (v := 5) dl_103 (by decide) ?_
  refine lv_iadd hx hb dl_104 ?_
  rw [show nI i + (5 : Int32) = nI (i + 5) from nI_add i 5]
  refine va_sld hx hb hX hbl hbA hS (vp_in_nI (by omega) (by omega)) dl_105 ?_
  rw [nI_clamp (by omega)]
  refine lw_call hx hb hml hown hts zZC_ok E.1 E.2.2.1 hHC hS hC zcX8 rfl calX8_feed virX8_feed dscX8_feed rfl ⟨(Nat.le_of_ble_eq_true rfl), (Nat.le_of_ble_eq_true rfl)⟩ ⟨(Nat.le_of_ble_eq_true rfl), (Nat.le_of_ble_eq_true rfl)⟩ (idx := 13) (zWS2 90 rfl rfl) hl.1 (rest := []) (Nat.le_of_ble_eq_true rfl) rfl dl_106 (fun r1 σ1 H locs hr hHC hk hS => ?_)
  have hHM := lw_keep hHM hk (fun i hi z => by obtain ⟨j, hj, e⟩ := z; exact E.2.2.2.2 j i hj hi e.symm)
  refine lv_pop hx hb dl_109 rfl ?_
  refine lv_aload_n hx hb (k := 2) dl_110 rfl (lv_at hl 2 rfl) ?_
  refine lv_aload_n hx hb (k := 0) dl_111 rfl (lv_at hl 0 rfl) ?_
  refine lv_iload_n hx hb (k := 3) dl_112 rfl (lv_at hl 3 rfl) ?_
  refine lv_iconst hx hb (n := 1) (v := 1) dl_113 (by decide) ?_
  refine lv_iadd hx hb dl_114 ?_
  rw [show nI i + (1 : Int32) = nI (i + 1) from nI_add i 1]
  refine va_sld hx hb hX hbl hbA hS (vp_in_nI (by omega) (by omega)) dl_115 ?_
  rw [nI_clamp (by omega)]
  refine lv_aload_n hx hb (k := 0) dl_116 rfl (lv_at hl 0 rfl) ?_
  refine lv_iload_n hx hb (k := 3) dl_117 rfl (lv_at hl 3 rfl) ?_
  refine lv_iconst hx hb (n := 2) (v := 2) dl_118 (by decide) ?_
  refine lv_iadd hx hb dl_119 ?_
  rw [show nI i + (2 : Int32) = nI (i + 2) from nI_add i 2]
  refine va_sld hx hb hX hbl hbA hS (vp_in_nI (by omega) (by omega)) dl_120 ?_
  rw [nI_clamp (by omega)]
  refine lv_aload_n hx hb (k := 0) dl_121 rfl (lv_at hl 0 rfl) ?_
  refine lv_iload_n hx hb (k := 3) dl_122 rfl (lv_at hl 3 rfl) ?_
  refine lv_iconst hx hb (n := 3) (v := 3) dl_123 (by decide) ?_
  refine lv_iadd hx hb dl_124 ?_
  rw [show nI i + (3 : Int32) = nI (i + 3) from nI_add i 3]
  refine va_sld hx hb hX hbl hbA hS (vp_in_nI (by omega) (by omega)) dl_125 ?_
  rw [nI_clamp (by omega)]
  refine lv_aload_n hx hb (k := 0) dl_126 rfl (lv_at hl 0 rfl) ?_
  refine lv_iload_n hx hb (k := 3) dl_127 rfl (lv_at hl 3 rfl) ?_
  refine lv_iconst hx hb (n := 4) (v := 4) dl_128 (by decide) ?_
  refine lv_iadd hx hb dl_129 ?_
  rw [show nI i + (4 : Int32) = nI (i + 4) from nI_add i 4]
  refine va_sld hx hb hX hbl hbA hS (vp_in_nI (by omega) (by omega)) dl_130 ?_
  rw [nI_clamp (by omega)]
  refine lv_aload_n hx hb (k := 0) dl_131 rfl (lv_at hl 0 rfl) ?_
  refine lv_iload_n hx hb (k := 3) dl_132 rfl (lv_at hl 3 rfl) ?_
  refine lv_iconst hx hb (n := 5) (v := 5) dl_133 (by decide) ?_
  refine lv_iadd hx hb dl_134 ?_
  rw [show nI i + (5 : Int32) = nI (i + 5) from nI_add i 5]
  refine va_sld hx hb hX hbl hbA hS (vp_in_nI (by omega) (by omega)) dl_135 ?_
  rw [nI_clamp (by omega)]
  refine lw_call hx hb hml hown hts zZM_ok E.2.1 E.2.2.2.1 hHM hS hM zcX10 rfl calX10_feed (⟨(zWS6 18 rfl rfl), (zWS6 19 rfl rfl)⟩) (na := 5) (by decide +kernel) rfl ⟨(Nat.le_of_ble_eq_true rfl), (Nat.le_of_ble_eq_true rfl)⟩ ⟨(Nat.le_of_ble_eq_true rfl), (Nat.le_of_ble_eq_true rfl)⟩ (idx := 17) (zWS6 17 rfl rfl) hl.1 (rest := []) (Nat.le_of_ble_eq_true rfl) rfl dl_136 (fun r2 σ2 H locs hr2 hHM hk hS => ?_)
  have hHC := lw_keep hHC hk (fun i hi z => by obtain ⟨j, hj, e⟩ := z; exact E.2.2.2.2 i j hi hj e)
  refine lv_pop hx hb dl_139 rfl ?_
  refine lv_goto (tgt := 294) hx hb dl_140 (by decide) ?_
  exact kk σ1 σ2 GM H locs (Or.inl rfl) hr hr2 hHC hHM hS
set_option maxRecDepth 20000 in
theorem law_1 {p : Program} {e : Env} {s : State} {m : MethodId} {below : List Frame} {meth : Method} {c : Code} {l : Launch} {b L : Nat} {xs : Nat → Int32} {Q : State → Prop} (hL : L < 2 ^ 20) (C0 : lw_At p s m meth c b L xs) {i : Nat} (hi : i + 6 ≤ L) {σC σM : zS} {GC GM : zG} (E : lwEnv s GC GM) {H : Heap} {locs : List Loc} (hHC : zHd zZC GC σC H) (hHM : zHd zZM GM σM H) (hS : va_S (lwA s) s.heap H locs) {ls : Array Slot} (hl : lv_has ls 4 [(0, .ref b), (1, .ref (GC.2.2 0)), (2, .ref (GM.2.2 0)), (3, .int (nI i))])
    (PC PM : zS → Prop) (hC : zCT zZC zmX8_end [.ref 0, .int (xs (i + 1))] σC (zQi (fun _ s => PC s)) (fun _ => False)) (hM : zCT zZM zmX10_end [.ref 0, .int (xs (i + 1))] σM (zQi (fun _ s => PM s)) (fun _ => False))
    (kk : ∀ (σC' σM' : zS) (GM' : zG) (H' : Heap) (locs' : List Loc), (GM' = GM ∨ GM' = zGsw GM) → PC σC' → PM σM' → zHd zZC GC σC' H' → zHd zZM GM' σM' H' → va_S (lwA s) s.heap H' locs' → W p l e room_1 s m #[Value.ref b] below meth c H' locs' 138 150552 Q (F0 m 294 ls [])) :
    W p l e room_1 s m #[Value.ref b] below meth c H locs 138 150552 Q (F0 m 143 ls []) := by
  obtain ⟨hx, hb, hr, hml, hown, hts, hX, hbl, hlocks, hgv⟩ := id C0
  have hbA : ¬ lwA s b := Nat.not_le.mpr hbl
  refine lv_aload_n hx hb (k := 1) dl_143 rfl (lv_at hl 1 rfl) ?_
  refine lv_aload_n hx hb (k := 0) dl_144 rfl (lv_at hl 0 rfl) ?_
  refine lv_iload_n hx hb (k := 3) dl_145 rfl (lv_at hl 3 rfl) ?_
  refine lv_iconst hx hb (n := 1) (v := 1) dl_146 (by decide) ?_
  refine lv_iadd hx hb dl_147 ?_
  rw [show nI i + (1 : Int32) = nI (i + 1) from nI_add i 1]
  refine va_sld hx hb hX hbl hbA hS (vp_in_nI (by omega) (by omega)) dl_148 ?_
  rw [nI_clamp (by omega)]
  refine lw_call hx hb hml hown hts zZC_ok E.1 E.2.2.1 hHC hS hC zcX8 rfl calX8_end virX8_end dscX8_end rfl ⟨(Nat.le_of_ble_eq_true rfl), (Nat.le_of_ble_eq_true rfl)⟩ ⟨(Nat.le_of_ble_eq_true rfl), (Nat.le_of_ble_eq_true rfl)⟩ (idx := 18) (zWS2 99 rfl rfl) hl.1 (rest := []) (Nat.le_of_ble_eq_true rfl) rfl dl_149 (fun r1 σ1 H locs hr hHC hk hS => ?_)
  have hHM := lw_keep hHM hk (fun i hi z => by obtain ⟨j, hj, e⟩ := z; exact E.2.2.2.2 j i hj hi e.symm)
  refine lv_pop hx hb dl_152 rfl ?_
  refine lv_aload_n hx hb (k := 2) dl_153 rfl (lv_at hl 2 rfl) ?_
  refine lv_aload_n hx hb (k := 0) dl_154 rfl (lv_at hl 0 rfl) ?_
  refine lv_iload_n hx hb (k := 3) dl_155 rfl (lv_at hl 3 rfl) ?_
  refine lv_iconst hx hb (n := 1) (v := 1) dl_156 (by decide) ?_
  refine lv_iadd hx hb dl_157 ?_
  rw [show nI i + (1 : Int32) = nI (i + 1) from nI_add i 1]
  refine va_sld hx hb hX hbl hbA hS (vp_in_nI (by omega) (by omega)) dl_158 ?_
  rw [nI_clamp (by omega)]
  refine lw_call hx hb hml hown hts zZM_ok E.2.1 E.2.2.2.1 hHM hS hM zcX10 rfl calX10_end (⟨(zWS6 27 rfl rfl), (zWS6 28 rfl rfl)⟩) (na := 1) (by decide +kernel) rfl ⟨(Nat.le_of_ble_eq_true rfl), (Nat.le_of_ble_eq_true rfl)⟩ ⟨(Nat.le_of_ble_eq_true rfl), (Nat.le_of_ble_eq_true rfl)⟩ (idx := 22) (zWS6 26 rfl rfl) hl.1 (rest := []) (Nat.le_of_ble_eq_true rfl) rfl dl_159 (fun r2 σ2 H locs hr2 hHM hk hS => ?_)
  have hHC := lw_keep hHC hk (fun i hi z => by obtain ⟨j, hj, e⟩ := z; exact E.2.2.2.2 i j hi hj e)
  refine lv_pop hx hb dl_162 rfl ?_
  refine lv_goto (tgt := 294) hx hb dl_163 (by decide) ?_
  exact kk σ1 σ2 GM H locs (Or.inl rfl) hr hr2 hHC hHM hS
set_option maxRecDepth 20000 in
theorem law_2 {p : Program} {e : Env} {s : State} {m : MethodId} {below : List Frame} {meth : Method} {c : Code} {l : Launch} {b L : Nat} {xs : Nat → Int32} {Q : State → Prop} (hL : L < 2 ^ 20) (C0 : lw_At p s m meth c b L xs) {i : Nat} (hi : i + 6 ≤ L) {σC σM : zS} {GC GM : zG} (E : lwEnv s GC GM) {H : Heap} {locs : List Loc} (hHC : zHd zZC GC σC H) (hHM : zHd zZM GM σM H) (hS : va_S (lwA s) s.heap H locs) {ls : Array Slot} (hl : lv_has ls 4 [(0, .ref b), (1, .ref (GC.2.2 0)), (2, .ref (GM.2.2 0)), (3, .int (nI i))])
    (ans : Int32) (PC PM : zS → Prop) (hC : zCT zZC zmX8_check [.ref 0] σC (zQi (fun r s => r = ans ∧ PC s)) (fun _ => False)) (hM : zCTH zZM zmX10_check [.ref 0] σM (zQi (fun r s => r = ans ∧ PM s)) (zQi (fun r s => r = ans ∧ PM s)) (fun _ => False))
    (kk : ∀ (σC' σM' : zS) (GM' : zG) (H' : Heap) (locs' : List Loc), (GM' = GM ∨ GM' = zGsw GM) → PC σC' → PM σM' → zHd zZC GC σC' H' → zHd zZM GM' σM' H' → va_S (lwA s) s.heap H' locs' → W p l e room_1 s m #[Value.ref b] below meth c H' locs' 138 150552 Q (F0 m 294 ls [])) :
    W p l e room_1 s m #[Value.ref b] below meth c H locs 138 150552 Q (F0 m 166 ls []) := by
  obtain ⟨hx, hb, hr, hml, hown, hts, hX, hbl, hlocks, hgv⟩ := id C0
  have hbA : ¬ lwA s b := Nat.not_le.mpr hbl
  refine lv_aload_n hx hb (k := 1) dl_166 rfl (lv_at hl 1 rfl) ?_
  refine lw_call hx hb hml hown hts zZC_ok E.1 E.2.2.1 hHC hS hC zcX8 rfl calX8_check virX8_check dscX8_check rfl ⟨(Nat.le_of_ble_eq_true rfl), (Nat.le_of_ble_eq_true rfl)⟩ ⟨(Nat.le_of_ble_eq_true rfl), (Nat.le_of_ble_eq_true rfl)⟩ (idx := 23) (zWS2 103 rfl rfl) hl.1 (rest := []) (Nat.le_of_ble_eq_true rfl) rfl dl_167 (fun r1 σ1 H locs hr hHC hk hS => ?_)
  have hHM := lw_keep hHM hk (fun i hi z => by obtain ⟨j, hj, e⟩ := z; exact E.2.2.2.2 j i hj hi e.symm)
  refine lv_aload_n hx hb (k := 2) dl_170 rfl (lv_at hl 2 rfl) ?_
  refine lw_callH hx hb hml hown hts zZM_ok E.2.1 E.2.2.2.1 hHM hS hM zcX10 rfl (zWS6 33 rfl rfl) iniX10 nmhX10 (⟨(zWS6 31 rfl rfl), (zWS6 32 rfl rfl)⟩) (na := 0) (by decide +kernel) rfl ⟨(Nat.le_of_ble_eq_true rfl), (Nat.le_of_ble_eq_true rfl)⟩ ⟨(Nat.le_of_ble_eq_true rfl), (Nat.le_of_ble_eq_true rfl)⟩ (idx := 27) (zWS6 30 rfl rfl) hl.1 (rest := [.int r1]) (Nat.le_of_ble_eq_true rfl) rfl dl_171 (fun r2 σ2 H locs GM' hG hr2 hHM hk hS => ?_)
  have hHC := lw_keep hHC hk (fun i hi z => by obtain ⟨j, hj, e⟩ := z; exact E.2.2.2.2 i j hi hj e)
  refine lv_icmp_eq (tgt := 294) hx hb dl_174 (by decide) (fun _ => ?_) (fun z => absurd (hr.1.trans hr2.1.symm) z)
  exact kk σ1 σ2 GM' H locs hG hr.2 hr2.2 hHC hHM hS
set_option maxRecDepth 20000 in
theorem law_3 {p : Program} {e : Env} {s : State} {m : MethodId} {below : List Frame} {meth : Method} {c : Code} {l : Launch} {b L : Nat} {xs : Nat → Int32} {Q : State → Prop} (hL : L < 2 ^ 20) (C0 : lw_At p s m meth c b L xs) {i : Nat} (hi : i + 6 ≤ L) {σC σM : zS} {GC GM : zG} (E : lwEnv s GC GM) {H : Heap} {locs : List Loc} (hHC : zHd zZC GC σC H) (hHM : zHd zZM GM σM H) (hS : va_S (lwA s) s.heap H locs) {ls : Array Slot} (hl : lv_has ls 4 [(0, .ref b), (1, .ref (GC.2.2 0)), (2, .ref (GM.2.2 0)), (3, .int (nI i))])
    (PC PM : zS → Prop) (hC : zCT zZC zmX8_place [.ref 0] σC (zQi (fun _ s => PC s)) (fun _ => False)) (hM : zCT zZM zmX10_place [.ref 0] σM (zQi (fun _ s => PM s)) (fun _ => False))
    (kk : ∀ (σC' σM' : zS) (GM' : zG) (H' : Heap) (locs' : List Loc), (GM' = GM ∨ GM' = zGsw GM) → PC σC' → PM σM' → zHd zZC GC σC' H' → zHd zZM GM' σM' H' → va_S (lwA s) s.heap H' locs' → W p l e room_1 s m #[Value.ref b] below meth c H' locs' 138 150552 Q (F0 m 294 ls [])) :
    W p l e room_1 s m #[Value.ref b] below meth c H locs 138 150552 Q (F0 m 179 ls []) := by
  obtain ⟨hx, hb, hr, hml, hown, hts, hX, hbl, hlocks, hgv⟩ := id C0
  have hbA : ¬ lwA s b := Nat.not_le.mpr hbl
  refine lv_aload_n hx hb (k := 1) dl_179 rfl (lv_at hl 1 rfl) ?_
  refine lw_call hx hb hml hown hts zZC_ok E.1 E.2.2.1 hHC hS hC zcX8 rfl calX8_place virX8_place dscX8_place rfl ⟨(Nat.le_of_ble_eq_true rfl), (Nat.le_of_ble_eq_true rfl)⟩ ⟨(Nat.le_of_ble_eq_true rfl), (Nat.le_of_ble_eq_true rfl)⟩ (idx := 28) (zWS4 77 rfl rfl) hl.1 (rest := []) (Nat.le_of_ble_eq_true rfl) rfl dl_180 (fun r1 σ1 H locs hr hHC hk hS => ?_)
  have hHM := lw_keep hHM hk (fun i hi z => by obtain ⟨j, hj, e⟩ := z; exact E.2.2.2.2 j i hj hi e.symm)
  refine lv_pop hx hb dl_183 rfl ?_
  refine lv_aload_n hx hb (k := 2) dl_184 rfl (lv_at hl 2 rfl) ?_
  refine lw_call hx hb hml hown hts zZM_ok E.2.1 E.2.2.2.1 hHM hS hM zcX10 rfl calX10_place (⟨(zWS7 107 rfl rfl), (zWS7 108 rfl rfl)⟩) (na := 0) (by decide +kernel) rfl ⟨(Nat.le_of_ble_eq_true rfl), (Nat.le_of_ble_eq_true rfl)⟩ ⟨(Nat.le_of_ble_eq_true rfl), (Nat.le_of_ble_eq_true rfl)⟩ (idx := 31) (zWS7 106 rfl rfl) hl.1 (rest := []) (Nat.le_of_ble_eq_true rfl) rfl dl_185 (fun r2 σ2 H locs hr2 hHM hk hS => ?_)
  have hHC := lw_keep hHC hk (fun i hi z => by obtain ⟨j, hj, e⟩ := z; exact E.2.2.2.2 i j hi hj e)
  refine lv_pop hx hb dl_188 rfl ?_
  refine lv_goto (tgt := 294) hx hb dl_189 (by decide) ?_
  exact kk σ1 σ2 GM H locs (Or.inl rfl) hr hr2 hHC hHM hS
set_option maxRecDepth 20000 in
theorem law_4 {p : Program} {e : Env} {s : State} {m : MethodId} {below : List Frame} {meth : Method} {c : Code} {l : Launch} {b L : Nat} {xs : Nat → Int32} {Q : State → Prop} (hL : L < 2 ^ 20) (C0 : lw_At p s m meth c b L xs) {i : Nat} (hi : i + 6 ≤ L) {σC σM : zS} {GC GM : zG} (E : lwEnv s GC GM) {H : Heap} {locs : List Loc} (hHC : zHd zZC GC σC H) (hHM : zHd zZM GM σM H) (hS : va_S (lwA s) s.heap H locs) {ls : Array Slot} (hl : lv_has ls 4 [(0, .ref b), (1, .ref (GC.2.2 0)), (2, .ref (GM.2.2 0)), (3, .int (nI i))])
    (PC PM : zS → Prop) (hC : zCT zZC zmX8_count [.ref 0, .int (xs (i + 1))] σC (zQi (fun _ s => PC s)) (fun _ => False)) (hM : zCT zZM zmX10_count [.ref 0, .int (xs (i + 1))] σM (zQi (fun _ s => PM s)) (fun _ => False))
    (kk : ∀ (σC' σM' : zS) (GM' : zG) (H' : Heap) (locs' : List Loc), (GM' = GM ∨ GM' = zGsw GM) → PC σC' → PM σM' → zHd zZC GC σC' H' → zHd zZM GM' σM' H' → va_S (lwA s) s.heap H' locs' → W p l e room_1 s m #[Value.ref b] below meth c H' locs' 138 150552 Q (F0 m 294 ls [])) :
    W p l e room_1 s m #[Value.ref b] below meth c H locs 138 150552 Q (F0 m 192 ls []) := by
  obtain ⟨hx, hb, hr, hml, hown, hts, hX, hbl, hlocks, hgv⟩ := id C0
  have hbA : ¬ lwA s b := Nat.not_le.mpr hbl
  refine lv_aload_n hx hb (k := 1) dl_192 rfl (lv_at hl 1 rfl) ?_
  refine lv_aload_n hx hb (k := 0) dl_193 rfl (lv_at hl 0 rfl) ?_
  refine lv_iload_n hx hb (k := 3) dl_194 rfl (lv_at hl 3 rfl) ?_
  refine lv_iconst hx hb (n := 1) (v := 1) dl_195 (by decide) ?_
  refine lv_iadd hx hb dl_196 ?_
  rw [show nI i + (1 : Int32) = nI (i + 1) from nI_add i 1]
  refine va_sld hx hb hX hbl hbA hS (vp_in_nI (by omega) (by omega)) dl_197 ?_
  rw [nI_clamp (by omega)]
  refine lw_call hx hb hml hown hts zZC_ok E.1 E.2.2.1 hHC hS hC zcX8 rfl calX8_count virX8_count dscX8_count rfl ⟨(Nat.le_of_ble_eq_true rfl), (Nat.le_of_ble_eq_true rfl)⟩ ⟨(Nat.le_of_ble_eq_true rfl), (Nat.le_of_ble_eq_true rfl)⟩ (idx := 32) (zWS4 81 rfl rfl) hl.1 (rest := []) (Nat.le_of_ble_eq_true rfl) rfl dl_198 (fun r1 σ1 H locs hr hHC hk hS => ?_)
  have hHM := lw_keep hHM hk (fun i hi z => by obtain ⟨j, hj, e⟩ := z; exact E.2.2.2.2 j i hj hi e.symm)
  refine lv_pop hx hb dl_201 rfl ?_
  refine lv_aload_n hx hb (k := 2) dl_202 rfl (lv_at hl 2 rfl) ?_
  refine lv_aload_n hx hb (k := 0) dl_203 rfl (lv_at hl 0 rfl) ?_
  refine lv_iload_n hx hb (k := 3) dl_204 rfl (lv_at hl 3 rfl) ?_
  refine lv_iconst hx hb (n := 1) (v := 1) dl_205 (by decide) ?_
  refine lv_iadd hx hb dl_206 ?_
  rw [show nI i + (1 : Int32) = nI (i + 1) from nI_add i 1]
  refine va_sld hx hb hX hbl hbA hS (vp_in_nI (by omega) (by omega)) dl_207 ?_
  rw [nI_clamp (by omega)]
  refine lw_call hx hb hml hown hts zZM_ok E.2.1 E.2.2.2.1 hHM hS hM zcX10 rfl calX10_count (⟨(zWS7 111 rfl rfl), (zWS7 112 rfl rfl)⟩) (na := 1) (by decide +kernel) rfl ⟨(Nat.le_of_ble_eq_true rfl), (Nat.le_of_ble_eq_true rfl)⟩ ⟨(Nat.le_of_ble_eq_true rfl), (Nat.le_of_ble_eq_true rfl)⟩ (idx := 36) (zWS7 110 rfl rfl) hl.1 (rest := []) (Nat.le_of_ble_eq_true rfl) rfl dl_208 (fun r2 σ2 H locs hr2 hHM hk hS => ?_)
  have hHC := lw_keep hHC hk (fun i hi z => by obtain ⟨j, hj, e⟩ := z; exact E.2.2.2.2 i j hi hj e)
  refine lv_pop hx hb dl_211 rfl ?_
  refine lv_goto (tgt := 294) hx hb dl_212 (by decide) ?_
  exact kk σ1 σ2 GM H locs (Or.inl rfl) hr hr2 hHC hHM hS
set_option maxRecDepth 20000 in
theorem law_5 {p : Program} {e : Env} {s : State} {m : MethodId} {below : List Frame} {meth : Method} {c : Code} {l : Launch} {b L : Nat} {xs : Nat → Int32} {Q : State → Prop} (hL : L < 2 ^ 20) (C0 : lw_At p s m meth c b L xs) {i : Nat} (hi : i + 6 ≤ L) {σC σM : zS} {GC GM : zG} (E : lwEnv s GC GM) {H : Heap} {locs : List Loc} (hHC : zHd zZC GC σC H) (hHM : zHd zZM GM σM H) (hS : va_S (lwA s) s.heap H locs) {ls : Array Slot} (hl : lv_has ls 4 [(0, .ref b), (1, .ref (GC.2.2 0)), (2, .ref (GM.2.2 0)), (3, .int (nI i))])
    (PC PM : zS → Prop) (hC : zCT zZC zmX8_instructions [.ref 0, .int (xs (i + 1))] σC (zQi (fun _ s => PC s)) (fun _ => False)) (hM : zCT zZM zmX10_instructions [.ref 0, .int (xs (i + 1))] σM (zQi (fun _ s => PM s)) (fun _ => False))
    (kk : ∀ (σC' σM' : zS) (GM' : zG) (H' : Heap) (locs' : List Loc), (GM' = GM ∨ GM' = zGsw GM) → PC σC' → PM σM' → zHd zZC GC σC' H' → zHd zZM GM' σM' H' → va_S (lwA s) s.heap H' locs' → W p l e room_1 s m #[Value.ref b] below meth c H' locs' 138 150552 Q (F0 m 294 ls [])) :
    W p l e room_1 s m #[Value.ref b] below meth c H locs 138 150552 Q (F0 m 215 ls []) := by
  obtain ⟨hx, hb, hr, hml, hown, hts, hX, hbl, hlocks, hgv⟩ := id C0
  have hbA : ¬ lwA s b := Nat.not_le.mpr hbl
  refine lv_aload_n hx hb (k := 1) dl_215 rfl (lv_at hl 1 rfl) ?_
  refine lv_aload_n hx hb (k := 0) dl_216 rfl (lv_at hl 0 rfl) ?_
  refine lv_iload_n hx hb (k := 3) dl_217 rfl (lv_at hl 3 rfl) ?_
  refine lv_iconst hx hb (n := 1) (v := 1) dl_218 (by decide) ?_
  refine lv_iadd hx hb dl_219 ?_
  rw [show nI i + (1 : Int32) = nI (i + 1) from nI_add i 1]
  refine va_sld hx hb hX hbl hbA hS (vp_in_nI (by omega) (by omega)) dl_220 ?_
  rw [nI_clamp (by omega)]
  refine lw_call hx hb hml hown hts zZC_ok E.1 E.2.2.1 hHC hS hC zcX8 rfl calX8_instructions virX8_instructions dscX8_instructions rfl ⟨(Nat.le_of_ble_eq_true rfl), (Nat.le_of_ble_eq_true rfl)⟩ ⟨(Nat.le_of_ble_eq_true rfl), (Nat.le_of_ble_eq_true rfl)⟩ (idx := 37) (zWS4 89 rfl rfl) hl.1 (rest := []) (Nat.le_of_ble_eq_true rfl) rfl dl_221 (fun r1 σ1 H locs hr hHC hk hS => ?_)
  have hHM := lw_keep hHM hk (fun i hi z => by obtain ⟨j, hj, e⟩ := z; exact E.2.2.2.2 j i hj hi e.symm)
  refine lv_pop hx hb dl_224 rfl ?_
  refine lv_aload_n hx hb (k := 2) dl_225 rfl (lv_at hl 2 rfl) ?_
  refine lv_aload_n hx hb (k := 0) dl_226 rfl (lv_at hl 0 rfl) ?_
  refine lv_iload_n hx hb (k := 3) dl_227 rfl (lv_at hl 3 rfl) ?_
  refine lv_iconst hx hb (n := 1) (v := 1) dl_228 (by decide) ?_
  refine lv_iadd hx hb dl_229 ?_
  rw [show nI i + (1 : Int32) = nI (i + 1) from nI_add i 1]
  refine va_sld hx hb hX hbl hbA hS (vp_in_nI (by omega) (by omega)) dl_230 ?_
  rw [nI_clamp (by omega)]
  refine lw_call hx hb hml hown hts zZM_ok E.2.1 E.2.2.2.1 hHM hS hM zcX10 rfl calX10_instructions (⟨(zWS7 115 rfl rfl), (zWS7 116 rfl rfl)⟩) (na := 1) (by decide +kernel) rfl ⟨(Nat.le_of_ble_eq_true rfl), (Nat.le_of_ble_eq_true rfl)⟩ ⟨(Nat.le_of_ble_eq_true rfl), (Nat.le_of_ble_eq_true rfl)⟩ (idx := 40) (zWS7 114 rfl rfl) hl.1 (rest := []) (Nat.le_of_ble_eq_true rfl) rfl dl_231 (fun r2 σ2 H locs hr2 hHM hk hS => ?_)
  have hHC := lw_keep hHC hk (fun i hi z => by obtain ⟨j, hj, e⟩ := z; exact E.2.2.2.2 i j hi hj e)
  refine lv_pop hx hb dl_234 rfl ?_
  refine lv_goto (tgt := 294) hx hb dl_235 (by decide) ?_
  exact kk σ1 σ2 GM H locs (Or.inl rfl) hr hr2 hHC hHM hS
set_option maxRecDepth 20000 in
theorem law_6 {p : Program} {e : Env} {s : State} {m : MethodId} {below : List Frame} {meth : Method} {c : Code} {l : Launch} {b L : Nat} {xs : Nat → Int32} {Q : State → Prop} (hL : L < 2 ^ 20) (C0 : lw_At p s m meth c b L xs) {i : Nat} (hi : i + 6 ≤ L) {σC σM : zS} {GC GM : zG} (E : lwEnv s GC GM) {H : Heap} {locs : List Loc} (hHC : zHd zZC GC σC H) (hHM : zHd zZM GM σM H) (hS : va_S (lwA s) s.heap H locs) {ls : Array Slot} (hl : lv_has ls 4 [(0, .ref b), (1, .ref (GC.2.2 0)), (2, .ref (GM.2.2 0)), (3, .int (nI i))])
    (PC PM : zS → Prop) (hC : zCT zZC zmX8_code [.ref 0, .int (xs (i + 1)), .int (xs (i + 2))] σC (zQi (fun _ s => PC s)) (fun _ => False)) (hM : zCT zZM zmX10_code [.ref 0, .int (xs (i + 1)), .int (xs (i + 2))] σM (zQi (fun _ s => PM s)) (fun _ => False))
    (kk : ∀ (σC' σM' : zS) (GM' : zG) (H' : Heap) (locs' : List Loc), (GM' = GM ∨ GM' = zGsw GM) → PC σC' → PM σM' → zHd zZC GC σC' H' → zHd zZM GM' σM' H' → va_S (lwA s) s.heap H' locs' → W p l e room_1 s m #[Value.ref b] below meth c H' locs' 138 150552 Q (F0 m 294 ls [])) :
    W p l e room_1 s m #[Value.ref b] below meth c H locs 138 150552 Q (F0 m 238 ls []) := by
  obtain ⟨hx, hb, hr, hml, hown, hts, hX, hbl, hlocks, hgv⟩ := id C0
  have hbA : ¬ lwA s b := Nat.not_le.mpr hbl
  refine lv_aload_n hx hb (k := 1) dl_238 rfl (lv_at hl 1 rfl) ?_
  refine lv_aload_n hx hb (k := 0) dl_239 rfl (lv_at hl 0 rfl) ?_
  refine lv_iload_n hx hb (k := 3) dl_240 rfl (lv_at hl 3 rfl) ?_
  refine lv_iconst hx hb (n := 1) (v := 1) dl_241 (by decide) ?_
  refine lv_iadd hx hb dl_242 ?_
  rw [show nI i + (1 : Int32) = nI (i + 1) from nI_add i 1]
  refine va_sld hx hb hX hbl hbA hS (vp_in_nI (by omega) (by omega)) dl_243 ?_
  rw [nI_clamp (by omega)]
  refine lv_aload_n hx hb (k := 0) dl_244 rfl (lv_at hl 0 rfl) ?_
  refine lv_iload_n hx hb (k := 3) dl_245 rfl (lv_at hl 3 rfl) ?_
  refine lv_iconst hx hb (n := 2) (v := 2) dl_246 (by decide) ?_
  refine lv_iadd hx hb dl_247 ?_
  rw [show nI i + (2 : Int32) = nI (i + 2) from nI_add i 2]
  refine va_sld hx hb hX hbl hbA hS (vp_in_nI (by omega) (by omega)) dl_248 ?_
  rw [nI_clamp (by omega)]
  refine lw_call hx hb hml hown hts zZC_ok E.1 E.2.2.1 hHC hS hC zcX8 rfl calX8_code virX8_code dscX8_code rfl ⟨(Nat.le_of_ble_eq_true rfl), (Nat.le_of_ble_eq_true rfl)⟩ ⟨(Nat.le_of_ble_eq_true rfl), (Nat.le_of_ble_eq_true rfl)⟩ (idx := 41) (zWS4 97 rfl rfl) hl.1 (rest := []) (Nat.le_of_ble_eq_true rfl) rfl dl_249 (fun r1 σ1 H locs hr hHC hk hS => ?_)
  have hHM := lw_keep hHM hk (fun i hi z => by obtain ⟨j, hj, e⟩ := z; exact E.2.2.2.2 j i hj hi e.symm)
  refine lv_pop hx hb dl_252 rfl ?_
  refine lv_aload_n hx hb (k := 2) dl_253 rfl (lv_at hl 2 rfl) ?_
  refine lv_aload_n hx hb (k := 0) dl_254 rfl (lv_at hl 0 rfl) ?_
  refine lv_iload_n hx hb (k := 3) dl_255 rfl (lv_at hl 3 rfl) ?_
  refine lv_iconst hx hb (n := 1) (v := 1) dl_256 (by decide) ?_
  refine lv_iadd hx hb dl_257 ?_
  rw [show nI i + (1 : Int32) = nI (i + 1) from nI_add i 1]
  refine va_sld hx hb hX hbl hbA hS (vp_in_nI (by omega) (by omega)) dl_258 ?_
  rw [nI_clamp (by omega)]
  refine lv_aload_n hx hb (k := 0) dl_259 rfl (lv_at hl 0 rfl) ?_
  refine lv_iload_n hx hb (k := 3) dl_260 rfl (lv_at hl 3 rfl) ?_
  refine lv_iconst hx hb (n := 2) (v := 2) dl_261 (by decide) ?_
  refine lv_iadd hx hb dl_262 ?_
  rw [show nI i + (2 : Int32) = nI (i + 2) from nI_add i 2]
  refine va_sld hx hb hX hbl hbA hS (vp_in_nI (by omega) (by omega)) dl_263 ?_
  rw [nI_clamp (by omega)]
  refine lw_call hx hb hml hown hts zZM_ok E.2.1 E.2.2.2.1 hHM hS hM zcX10 rfl calX10_code (⟨(zWS7 127 rfl rfl), (zWS7 128 rfl rfl)⟩) (na := 2) (by decide +kernel) rfl ⟨(Nat.le_of_ble_eq_true rfl), (Nat.le_of_ble_eq_true rfl)⟩ ⟨(Nat.le_of_ble_eq_true rfl), (Nat.le_of_ble_eq_true rfl)⟩ (idx := 45) (zWS7 126 rfl rfl) hl.1 (rest := []) (Nat.le_of_ble_eq_true rfl) rfl dl_264 (fun r2 σ2 H locs hr2 hHM hk hS => ?_)
  have hHC := lw_keep hHC hk (fun i hi z => by obtain ⟨j, hj, e⟩ := z; exact E.2.2.2.2 i j hi hj e)
  refine lv_pop hx hb dl_267 rfl ?_
  refine lv_goto (tgt := 294) hx hb dl_268 (by decide) ?_
  exact kk σ1 σ2 GM H locs (Or.inl rfl) hr hr2 hHC hHM hS
set_option maxRecDepth 20000 in
theorem law_7 {p : Program} {e : Env} {s : State} {m : MethodId} {below : List Frame} {meth : Method} {c : Code} {l : Launch} {b L : Nat} {xs : Nat → Int32} {Q : State → Prop} (hL : L < 2 ^ 20) (C0 : lw_At p s m meth c b L xs) {i : Nat} (hi : i + 6 ≤ L) {σC σM : zS} {GC GM : zG} (E : lwEnv s GC GM) {H : Heap} {locs : List Loc} (hHC : zHd zZC GC σC H) (hHM : zHd zZM GM σM H) (hS : va_S (lwA s) s.heap H locs) {ls : Array Slot} (hl : lv_has ls 4 [(0, .ref b), (1, .ref (GC.2.2 0)), (2, .ref (GM.2.2 0)), (3, .int (nI i))])
    (PC PM : zS → Prop) (hC : zCT zZC zmX8_locals [.ref 0, .int (xs (i + 1))] σC (zQi (fun _ s => PC s)) (fun _ => False)) (hM : zCT zZM zmX10_locals [.ref 0, .int (xs (i + 1))] σM (zQi (fun _ s => PM s)) (fun _ => False))
    (kk : ∀ (σC' σM' : zS) (GM' : zG) (H' : Heap) (locs' : List Loc), (GM' = GM ∨ GM' = zGsw GM) → PC σC' → PM σM' → zHd zZC GC σC' H' → zHd zZM GM' σM' H' → va_S (lwA s) s.heap H' locs' → W p l e room_1 s m #[Value.ref b] below meth c H' locs' 138 150552 Q (F0 m 294 ls [])) :
    W p l e room_1 s m #[Value.ref b] below meth c H locs 138 150552 Q (F0 m 271 ls []) := by
  obtain ⟨hx, hb, hr, hml, hown, hts, hX, hbl, hlocks, hgv⟩ := id C0
  have hbA : ¬ lwA s b := Nat.not_le.mpr hbl
  refine lv_aload_n hx hb (k := 1) dl_271 rfl (lv_at hl 1 rfl) ?_
  refine lv_aload_n hx hb (k := 0) dl_272 rfl (lv_at hl 0 rfl) ?_
  refine lv_iload_n hx hb (k := 3) dl_273 rfl (lv_at hl 3 rfl) ?_
  refine lv_iconst hx hb (n := 1) (v := 1) dl_274 (by decide) ?_
  refine lv_iadd hx hb dl_275 ?_
  rw [show nI i + (1 : Int32) = nI (i + 1) from nI_add i 1]
  refine va_sld hx hb hX hbl hbA hS (vp_in_nI (by omega) (by omega)) dl_276 ?_
  rw [nI_clamp (by omega)]
  refine lw_call hx hb hml hown hts zZC_ok E.1 E.2.2.1 hHC hS hC zcX8 rfl calX8_locals virX8_locals dscX8_locals rfl ⟨(Nat.le_of_ble_eq_true rfl), (Nat.le_of_ble_eq_true rfl)⟩ ⟨(Nat.le_of_ble_eq_true rfl), (Nat.le_of_ble_eq_true rfl)⟩ (idx := 46) (zWS4 106 rfl rfl) hl.1 (rest := []) (Nat.le_of_ble_eq_true rfl) rfl dl_277 (fun r1 σ1 H locs hr hHC hk hS => ?_)
  have hHM := lw_keep hHM hk (fun i hi z => by obtain ⟨j, hj, e⟩ := z; exact E.2.2.2.2 j i hj hi e.symm)
  refine lv_pop hx hb dl_280 rfl ?_
  refine lv_aload_n hx hb (k := 2) dl_281 rfl (lv_at hl 2 rfl) ?_
  refine lv_aload_n hx hb (k := 0) dl_282 rfl (lv_at hl 0 rfl) ?_
  refine lv_iload_n hx hb (k := 3) dl_283 rfl (lv_at hl 3 rfl) ?_
  refine lv_iconst hx hb (n := 1) (v := 1) dl_284 (by decide) ?_
  refine lv_iadd hx hb dl_285 ?_
  rw [show nI i + (1 : Int32) = nI (i + 1) from nI_add i 1]
  refine va_sld hx hb hX hbl hbA hS (vp_in_nI (by omega) (by omega)) dl_286 ?_
  rw [nI_clamp (by omega)]
  refine lw_call hx hb hml hown hts zZM_ok E.2.1 E.2.2.2.1 hHM hS hM zcX10 rfl calX10_locals (⟨(zWS7 131 rfl rfl), (zWS7 132 rfl rfl)⟩) (na := 1) (by decide +kernel) rfl ⟨(Nat.le_of_ble_eq_true rfl), (Nat.le_of_ble_eq_true rfl)⟩ ⟨(Nat.le_of_ble_eq_true rfl), (Nat.le_of_ble_eq_true rfl)⟩ (idx := 49) (zWS7 130 rfl rfl) hl.1 (rest := []) (Nat.le_of_ble_eq_true rfl) rfl dl_287 (fun r2 σ2 H locs hr2 hHM hk hS => ?_)
  have hHC := lw_keep hHC hk (fun i hi z => by obtain ⟨j, hj, e⟩ := z; exact E.2.2.2.2 i j hi hj e)
  refine lv_pop hx hb dl_290 rfl ?_
  refine lv_goto (tgt := 294) hx hb dl_291 (by decide) ?_
  exact kk σ1 σ2 GM H locs (Or.inl rfl) hr hr2 hHC hHM hS
theorem law_head {p : Program} {e : Env} {s : State} {m : MethodId} {below : List Frame} {meth : Method} {c : Code} {l : Launch} {b L : Nat} {xs : Nat → Int32} {Q : State → Prop} (hL : L < 2 ^ 20) (C0 : lw_At p s m meth c b L xs) {i cells slots : Nat} (hi : i < 2 ^ 20) {H : Heap} {locs : List Loc} (hS : va_S (lwA s) s.heap H locs) {ls : Array Slot} {u v : Nat} (hl : lv_has ls 4 [(0, .ref b), (1, .ref u), (2, .ref v), (3, .int (nI i))])
    (k1 : L < i + 6 → W p l e room_1 s m #[Value.ref b] below meth c H locs cells slots Q (F0 m 300 ls [])) (k2 : i + 6 ≤ L → ∀ k, k < 8 → xs i &&& 7 = nI k → W p l e room_1 s m #[Value.ref b] below meth c H locs cells slots Q (F0 m (([80, 143, 166, 179, 192, 215, 238, 271] : List Nat).getD k 0) ls [])) :
    W p l e room_1 s m #[Value.ref b] below meth c H locs cells slots Q (F0 m 18 ls []) := by
  obtain ⟨hx, hb, hr, hml, hown, hts, hX, hbl, hlocks, hgv⟩ := id C0
  have hbA : ¬ lwA s b := Nat.not_le.mpr hbl
  refine lv_iload_n hx hb (k := 3) dl_18 rfl (lv_at hl 3 rfl) ?_
  refine lv_aload_n hx hb (k := 0) dl_19 rfl (lv_at hl 0 rfl) ?_
  refine va_slen hx hb hX hbl hbA hS dl_20 ?_
  refine lv_bipush hx hb (n := 6) (v := 6) dl_21 (by decide) ?_
  refine lv_isub hx hb dl_23 ?_
  refine lv_icmp_gt (tgt := 300) hx hb dl_24 (by decide) (fun q => k1 ((lw_more hL hi).1 q)) (fun q => ?_)
  have hle : i + 6 ≤ L := by
    rcases Nat.lt_or_ge L (i + 6) with z | z
    · exact absurd ((lw_more hL hi).2 z) q
    · exact z
  refine lv_aload_n hx hb (k := 0) dl_27 rfl (lv_at hl 0 rfl) ?_
  refine lv_iload_n hx hb (k := 3) dl_28 rfl (lv_at hl 3 rfl) ?_
  refine va_sld hx hb hX hbl hbA hS (vp_in_nI (by omega) (by omega)) dl_29 ?_
  rw [nI_clamp (by omega)]
  refine lv_bipush hx hb (n := 7) (v := 7) dl_30 (by decide) ?_
  refine lv_iand hx hb dl_32 ?_
  obtain ⟨k, hk, ek⟩ := lw_and7 (xs i)
  have k3 := k2 hle k hk ek
  rw [ek]
  match k, hk with
  | 0, _ => exact lv_tableIn (off := 47) (tgt := 80) hx hb dl_33 (by decide) (by decide) rfl (by decide) k3
  | 1, _ => exact lv_tableIn (off := 110) (tgt := 143) hx hb dl_33 (by decide) (by decide) rfl (by decide) k3
  | 2, _ => exact lv_tableIn (off := 133) (tgt := 166) hx hb dl_33 (by decide) (by decide) rfl (by decide) k3
  | 3, _ => exact lv_tableIn (off := 146) (tgt := 179) hx hb dl_33 (by decide) (by decide) rfl (by decide) k3
  | 4, _ => exact lv_tableIn (off := 159) (tgt := 192) hx hb dl_33 (by decide) (by decide) rfl (by decide) k3
  | 5, _ => exact lv_tableIn (off := 182) (tgt := 215) hx hb dl_33 (by decide) (by decide) rfl (by decide) k3
  | 6, _ => exact lv_tableIn (off := 205) (tgt := 238) hx hb dl_33 (by decide) (by decide) rfl (by decide) k3
  | 7, _ => exact lv_tableIn (off := 238) (tgt := 271) hx hb dl_33 (by decide) (by decide) rfl (by decide) k3
  | n + 8, h => exact absurd h (by omega)
theorem law_next {p : Program} {e : Env} {s : State} {m : MethodId} {below : List Frame} {meth : Method} {c : Code} {l : Launch} {b L : Nat} {xs : Nat → Int32} {Q : State → Prop} (C0 : lw_At p s m meth c b L xs) {i cells slots : Nat} {H : Heap} {locs : List Loc} {ls : Array Slot} {u v : Nat} (hl : lv_has ls 4 [(0, .ref b), (1, .ref u), (2, .ref v), (3, .int (nI i))])
    (kk : ∀ ls' : Array Slot, lv_has ls' 4 [(0, .ref b), (1, .ref u), (2, .ref v), (3, .int (nI (i + 6)))] → W p l e room_1 s m #[Value.ref b] below meth c H locs cells slots Q (F0 m 18 ls' [])) :
    W p l e room_1 s m #[Value.ref b] below meth c H locs cells slots Q (F0 m 294 ls []) := by
  obtain ⟨hx, hb, hr, hml, hown, hts, hX, hbl, hlocks, hgv⟩ := id C0
  refine lv_iinc (v := nI (i + 6)) (lv' := [(3, .int (nI (i + 6))), (0, .ref b), (1, .ref u), (2, .ref v)]) hx hb dl_294 hl (k := 3) rfl (nI_add i 6) (by decide) rfl (fun ls' hl' => ?_)
  refine lv_goto (tgt := 18) hx hb dl_297 (by decide) ?_
  exact kk ls' (lv_sub hl' [1, 2, 3, 0] rfl)
theorem law_exit {p : Program} {e : Env} {s : State} {m : MethodId} {below : List Frame} {meth : Method} {c : Code} {l : Launch} {b L : Nat} {xs : Nat → Int32} (C0 : lw_At p s m meth c b L xs) {H : Heap} {locs : List Loc} {ls : Array Slot} (hS : va_S (lwA s) s.heap H locs) :
    W p l e room_1 s m #[Value.ref b] below meth c H locs 138 150552 (lw_Z below #[Value.ref b] s) (F0 m 300 ls []) := by
  obtain ⟨hx, hb, hr, hml, hown, hts, hX, hbl, hlocks, hgv⟩ := id C0
  refine lv_iconst hx hb (n := 1) (v := 1) dl_300 (by decide) ?_
  refine va_forget (fun q hq => hS.2.2 q hq) ?_
  refine W.widen (k := 1162) (n := 158744) (Nat.le_of_ble_eq_true rfl) (Nat.le_of_ble_eq_true rfl) ?_
  exact lw_ret hx hb hr hlocks dl_301
