/-! THE CLAIM OUT OF ONE WALK OF THE LAW'S BODY. Your part is whole_start (and what it stands on); all else here is the same for every law, but numbers. -/
def R_law : String := "OrderedVolumeLaw"
def lw_P (b : Addr) (xs : List Int32) (args : Array Value) (s : State) : Prop := args = #[.ref b] ∧ s.IntsAt b xs ∧ xs.length ≤ 2560 ∧ (Jvm.Cond.and given_1 narrow_1).before args s = true
def lw_Q (_ : Array Value) (s : State) (o : Outcome) (t : State) : Prop := o = .returned (some (.int 1)) ∧ Framed s o t [] 28 3706
def lw_Z (below : List Frame) (a : Array Value) (s : State) : State → Prop := fun t => ∃ o, t.status = .running ∧ Ended t below o ∧ lw_Q a s o t
/-- the law's own end, with 1 on the stack, nothing written that was there before, its room as the claim has it -/
theorem lw_ret {p : Program} {l : Launch} {e : Env} {s : State} {m : MethodId} {below : List Frame} {meth : Method} {c : Code} {b : Nat} (hx : p.tables.exec = Jvm.exec) (hb : c.code = code) (hr : meth.sig.returnType = ret) (hlocks : meth.locks = false) {pc : Nat} {H : Heap} {ls : Array Slot} (hdg : decode code pc = .ok (.ireturn, 1)) : W p l e room_1 s m #[Value.ref b] below meth c H [] 28 3706 (lw_Z below #[Value.ref b] s) (F0 m pc ls [.int 1]) := by
  intro T hT X
  obtain ⟨fs, hret, hrun, hended, hW, hframe⟩ := X.leave (v := some (.int 1)) (hlocks := hlocks) (fun h => by rw [hr] at h; cases h)
  have hmeth' : T.vm.method? m = some meth := X.method'
  refine ⟨T.setFrames fs, ?_, .returned (some (.int 1)), hrun, hended, rfl, ⟨_, rfl⟩, hW, hframe⟩
  jvm_step X.here [X.here.top, hx, hb, hdg, hmeth', hr, ret, narrow_b1]
  (try refine ⟨rfl, ?_⟩); (try refine ⟨rfl, ?_⟩)
  first | (intro acts; rw [hret _ acts rfl rfl rfl]) | rw [hret _ _ rfl rfl rfl]
  exact Steps.refl _
/-- what holds at the law's entry: the machine, the code, the tables' words (any of lw_tbl by 'hts w (by decide +kernel)'), the script of L ints xs at the cell b, what the Statement gives of the start (any of its parts by flat_of_before) -/
def lw_At (p : Program) (s : State) (m : MethodId) (meth : Method) (c : Code) (b L : Nat) (xs : Nat → Int32) : Prop :=
  p.tables.exec = Jvm.exec ∧ c.code = code ∧ meth.sig.returnType = ret ∧ c.maxLocals = 4 ∧ s.vm.findClass R_law = some m.cls ∧ (∀ w ∈ lw_tbl, w.before #[Value.ref b] s = true) ∧ va_X b L xs s s.heap ∧ b < s.heap.size ∧ meth.locks = false ∧ (Jvm.Cond.and given_1 narrow_1).before #[Value.ref b] s = true
theorem d_L_0 : decode code 0 = .ok (.new 7, 3) := by decide +kernel
theorem d_L_3 : decode code 3 = .ok (.dup, 1) := by decide +kernel
theorem d_L_4 : decode code 4 = .ok (.invokespecial 9, 3) := by decide +kernel
theorem d_L_7 : decode code 7 = .ok (.astore_n 1, 1) := by decide +kernel
theorem d_L_8 : decode code 8 = .ok (.new 10, 3) := by decide +kernel
theorem d_L_11 : decode code 11 = .ok (.dup, 1) := by decide +kernel
theorem d_L_12 : decode code 12 = .ok (.invokespecial 12, 3) := by decide +kernel
theorem d_L_15 : decode code 15 = .ok (.astore_n 2, 1) := by decide +kernel
theorem d_L_16 : decode code 16 = .ok (.iconst 0, 1) := by decide +kernel
theorem d_L_17 : decode code 17 = .ok (.istore_n 3, 1) := by decide +kernel
theorem d_L_18 : decode code 18 = .ok (.iload_n 3, 1) := by decide +kernel
theorem d_L_19 : decode code 19 = .ok (.aload_n 0, 1) := by decide +kernel
theorem d_L_20 : decode code 20 = .ok (.arraylength, 1) := by decide +kernel
theorem d_L_21 : decode code 21 = .ok (.iconst 5, 1) := by decide +kernel
theorem d_L_22 : decode code 22 = .ok (.isub, 1) := by decide +kernel
theorem d_L_23 : decode code 23 = .ok (.if_icmp .gt 572, 3) := by decide +kernel
theorem d_L_26 : decode code 26 = .ok (.aload_n 0, 1) := by decide +kernel
theorem d_L_27 : decode code 27 = .ok (.iload_n 3, 1) := by decide +kernel
theorem d_L_28 : decode code 28 = .ok (.iaload, 1) := by decide +kernel
theorem d_L_29 : decode code 29 = .ok (.bipush 15, 2) := by decide +kernel
theorem d_L_31 : decode code 31 = .ok (.iand, 1) := by decide +kernel
theorem d_L_32 : decode code 32 = .ok (.tableswitch 557 0 14 #[76, 135, 178, 211, 264, 307, 340, 373, 406, 429, 442, 455, 468, 491, 524], 76) := by decide +kernel
theorem d_L_108 : decode code 108 = .ok (.aload_n 1, 1) := by decide +kernel
theorem d_L_109 : decode code 109 = .ok (.aload_n 0, 1) := by decide +kernel
theorem d_L_110 : decode code 110 = .ok (.iload_n 3, 1) := by decide +kernel
theorem d_L_111 : decode code 111 = .ok (.iconst 1, 1) := by decide +kernel
theorem d_L_112 : decode code 112 = .ok (.iadd, 1) := by decide +kernel
theorem d_L_113 : decode code 113 = .ok (.iaload, 1) := by decide +kernel
theorem d_L_114 : decode code 114 = .ok (.aload_n 0, 1) := by decide +kernel
theorem d_L_115 : decode code 115 = .ok (.iload_n 3, 1) := by decide +kernel
theorem d_L_116 : decode code 116 = .ok (.iconst 2, 1) := by decide +kernel
theorem d_L_117 : decode code 117 = .ok (.iadd, 1) := by decide +kernel
theorem d_L_118 : decode code 118 = .ok (.iaload, 1) := by decide +kernel
theorem d_L_119 : decode code 119 = .ok (.aload_n 0, 1) := by decide +kernel
theorem d_L_120 : decode code 120 = .ok (.iload_n 3, 1) := by decide +kernel
theorem d_L_121 : decode code 121 = .ok (.iconst 3, 1) := by decide +kernel
theorem d_L_122 : decode code 122 = .ok (.iadd, 1) := by decide +kernel
theorem d_L_123 : decode code 123 = .ok (.iaload, 1) := by decide +kernel
theorem d_L_124 : decode code 124 = .ok (.ifCond .eq 7, 3) := by decide +kernel
theorem d_L_127 : decode code 127 = .ok (.iconst 1, 1) := by decide +kernel
theorem d_L_128 : decode code 128 = .ok (.goto 4, 3) := by decide +kernel
theorem d_L_131 : decode code 131 = .ok (.iconst 0, 1) := by decide +kernel
theorem d_L_132 : decode code 132 = .ok (.invokevirtual 13, 3) := by decide +kernel
theorem d_L_135 : decode code 135 = .ok (.aload_n 2, 1) := by decide +kernel
theorem d_L_136 : decode code 136 = .ok (.aload_n 0, 1) := by decide +kernel
theorem d_L_137 : decode code 137 = .ok (.iload_n 3, 1) := by decide +kernel
theorem d_L_138 : decode code 138 = .ok (.iconst 1, 1) := by decide +kernel
theorem d_L_139 : decode code 139 = .ok (.iadd, 1) := by decide +kernel
theorem d_L_140 : decode code 140 = .ok (.iaload, 1) := by decide +kernel
theorem d_L_141 : decode code 141 = .ok (.aload_n 0, 1) := by decide +kernel
theorem d_L_142 : decode code 142 = .ok (.iload_n 3, 1) := by decide +kernel
theorem d_L_143 : decode code 143 = .ok (.iconst 2, 1) := by decide +kernel
theorem d_L_144 : decode code 144 = .ok (.iadd, 1) := by decide +kernel
theorem d_L_145 : decode code 145 = .ok (.iaload, 1) := by decide +kernel
theorem d_L_146 : decode code 146 = .ok (.aload_n 0, 1) := by decide +kernel
theorem d_L_147 : decode code 147 = .ok (.iload_n 3, 1) := by decide +kernel
theorem d_L_148 : decode code 148 = .ok (.iconst 3, 1) := by decide +kernel
theorem d_L_149 : decode code 149 = .ok (.iadd, 1) := by decide +kernel
theorem d_L_150 : decode code 150 = .ok (.iaload, 1) := by decide +kernel
theorem d_L_151 : decode code 151 = .ok (.ifCond .eq 7, 3) := by decide +kernel
theorem d_L_154 : decode code 154 = .ok (.iconst 1, 1) := by decide +kernel
theorem d_L_155 : decode code 155 = .ok (.goto 4, 3) := by decide +kernel
theorem d_L_158 : decode code 158 = .ok (.iconst 0, 1) := by decide +kernel
theorem d_L_159 : decode code 159 = .ok (.invokevirtual 17, 3) := by decide +kernel
theorem d_L_162 : decode code 162 = .ok (.if_icmp .eq 427, 3) := by decide +kernel
theorem d_L_165 : decode code 165 = .ok (.iconst 0, 1) := by decide +kernel
theorem d_L_166 : decode code 166 = .ok (.ireturn, 1) := by decide +kernel
theorem d_L_167 : decode code 167 = .ok (.aload_n 1, 1) := by decide +kernel
theorem d_L_168 : decode code 168 = .ok (.aload_n 0, 1) := by decide +kernel
theorem d_L_169 : decode code 169 = .ok (.iload_n 3, 1) := by decide +kernel
theorem d_L_170 : decode code 170 = .ok (.iconst 1, 1) := by decide +kernel
theorem d_L_171 : decode code 171 = .ok (.iadd, 1) := by decide +kernel
theorem d_L_172 : decode code 172 = .ok (.iaload, 1) := by decide +kernel
theorem d_L_173 : decode code 173 = .ok (.aload_n 0, 1) := by decide +kernel
theorem d_L_174 : decode code 174 = .ok (.iload_n 3, 1) := by decide +kernel
theorem d_L_175 : decode code 175 = .ok (.iconst 2, 1) := by decide +kernel
theorem d_L_176 : decode code 176 = .ok (.iadd, 1) := by decide +kernel
theorem d_L_177 : decode code 177 = .ok (.iaload, 1) := by decide +kernel
theorem d_L_178 : decode code 178 = .ok (.aload_n 0, 1) := by decide +kernel
theorem d_L_179 : decode code 179 = .ok (.iload_n 3, 1) := by decide +kernel
theorem d_L_180 : decode code 180 = .ok (.iconst 3, 1) := by decide +kernel
theorem d_L_181 : decode code 181 = .ok (.iadd, 1) := by decide +kernel
theorem d_L_182 : decode code 182 = .ok (.iaload, 1) := by decide +kernel
theorem d_L_183 : decode code 183 = .ok (.invokevirtual 18, 3) := by decide +kernel
theorem d_L_186 : decode code 186 = .ok (.aload_n 2, 1) := by decide +kernel
theorem d_L_187 : decode code 187 = .ok (.aload_n 0, 1) := by decide +kernel
theorem d_L_188 : decode code 188 = .ok (.iload_n 3, 1) := by decide +kernel
theorem d_L_189 : decode code 189 = .ok (.iconst 1, 1) := by decide +kernel
theorem d_L_190 : decode code 190 = .ok (.iadd, 1) := by decide +kernel
theorem d_L_191 : decode code 191 = .ok (.iaload, 1) := by decide +kernel
theorem d_L_192 : decode code 192 = .ok (.aload_n 0, 1) := by decide +kernel
theorem d_L_193 : decode code 193 = .ok (.iload_n 3, 1) := by decide +kernel
theorem d_L_194 : decode code 194 = .ok (.iconst 2, 1) := by decide +kernel
theorem d_L_195 : decode code 195 = .ok (.iadd, 1) := by decide +kernel
theorem d_L_196 : decode code 196 = .ok (.iaload, 1) := by decide +kernel
theorem d_L_197 : decode code 197 = .ok (.aload_n 0, 1) := by decide +kernel
theorem d_L_198 : decode code 198 = .ok (.iload_n 3, 1) := by decide +kernel
theorem d_L_199 : decode code 199 = .ok (.iconst 3, 1) := by decide +kernel
theorem d_L_200 : decode code 200 = .ok (.iadd, 1) := by decide +kernel
theorem d_L_201 : decode code 201 = .ok (.iaload, 1) := by decide +kernel
theorem d_L_202 : decode code 202 = .ok (.invokevirtual 22, 3) := by decide +kernel
theorem d_L_205 : decode code 205 = .ok (.if_icmp .eq 384, 3) := by decide +kernel
theorem d_L_208 : decode code 208 = .ok (.iconst 0, 1) := by decide +kernel
theorem d_L_209 : decode code 209 = .ok (.ireturn, 1) := by decide +kernel
theorem d_L_210 : decode code 210 = .ok (.aload_n 1, 1) := by decide +kernel
theorem d_L_211 : decode code 211 = .ok (.aload_n 0, 1) := by decide +kernel
theorem d_L_212 : decode code 212 = .ok (.iload_n 3, 1) := by decide +kernel
theorem d_L_213 : decode code 213 = .ok (.iconst 1, 1) := by decide +kernel
theorem d_L_214 : decode code 214 = .ok (.iadd, 1) := by decide +kernel
theorem d_L_215 : decode code 215 = .ok (.iaload, 1) := by decide +kernel
theorem d_L_216 : decode code 216 = .ok (.aload_n 0, 1) := by decide +kernel
theorem d_L_217 : decode code 217 = .ok (.iload_n 3, 1) := by decide +kernel
theorem d_L_218 : decode code 218 = .ok (.iconst 2, 1) := by decide +kernel
theorem d_L_219 : decode code 219 = .ok (.iadd, 1) := by decide +kernel
theorem d_L_220 : decode code 220 = .ok (.iaload, 1) := by decide +kernel
theorem d_L_221 : decode code 221 = .ok (.invokevirtual 23, 3) := by decide +kernel
theorem d_L_224 : decode code 224 = .ok (.aload_n 2, 1) := by decide +kernel
theorem d_L_225 : decode code 225 = .ok (.aload_n 0, 1) := by decide +kernel
theorem d_L_226 : decode code 226 = .ok (.iload_n 3, 1) := by decide +kernel
theorem d_L_227 : decode code 227 = .ok (.iconst 1, 1) := by decide +kernel
theorem d_L_228 : decode code 228 = .ok (.iadd, 1) := by decide +kernel
theorem d_L_229 : decode code 229 = .ok (.iaload, 1) := by decide +kernel
theorem d_L_230 : decode code 230 = .ok (.aload_n 0, 1) := by decide +kernel
theorem d_L_231 : decode code 231 = .ok (.iload_n 3, 1) := by decide +kernel
theorem d_L_232 : decode code 232 = .ok (.iconst 2, 1) := by decide +kernel
theorem d_L_233 : decode code 233 = .ok (.iadd, 1) := by decide +kernel
theorem d_L_234 : decode code 234 = .ok (.iaload, 1) := by decide +kernel
theorem d_L_235 : decode code 235 = .ok (.invokevirtual 27, 3) := by decide +kernel
theorem d_L_238 : decode code 238 = .ok (.if_icmp .eq 351, 3) := by decide +kernel
theorem d_L_241 : decode code 241 = .ok (.iconst 0, 1) := by decide +kernel
theorem d_L_242 : decode code 242 = .ok (.ireturn, 1) := by decide +kernel
theorem d_L_243 : decode code 243 = .ok (.aload_n 1, 1) := by decide +kernel
theorem d_L_244 : decode code 244 = .ok (.aload_n 0, 1) := by decide +kernel
theorem d_L_245 : decode code 245 = .ok (.iload_n 3, 1) := by decide +kernel
theorem d_L_246 : decode code 246 = .ok (.iconst 1, 1) := by decide +kernel
theorem d_L_247 : decode code 247 = .ok (.iadd, 1) := by decide +kernel
theorem d_L_248 : decode code 248 = .ok (.iaload, 1) := by decide +kernel
theorem d_L_249 : decode code 249 = .ok (.aload_n 0, 1) := by decide +kernel
theorem d_L_250 : decode code 250 = .ok (.iload_n 3, 1) := by decide +kernel
theorem d_L_251 : decode code 251 = .ok (.iconst 2, 1) := by decide +kernel
theorem d_L_252 : decode code 252 = .ok (.iadd, 1) := by decide +kernel
theorem d_L_253 : decode code 253 = .ok (.iaload, 1) := by decide +kernel
theorem d_L_254 : decode code 254 = .ok (.aload_n 0, 1) := by decide +kernel
theorem d_L_255 : decode code 255 = .ok (.iload_n 3, 1) := by decide +kernel
theorem d_L_256 : decode code 256 = .ok (.iconst 3, 1) := by decide +kernel
theorem d_L_257 : decode code 257 = .ok (.iadd, 1) := by decide +kernel
theorem d_L_258 : decode code 258 = .ok (.iaload, 1) := by decide +kernel
theorem d_L_259 : decode code 259 = .ok (.aload_n 0, 1) := by decide +kernel
theorem d_L_260 : decode code 260 = .ok (.iload_n 3, 1) := by decide +kernel
theorem d_L_261 : decode code 261 = .ok (.iconst 4, 1) := by decide +kernel
theorem d_L_262 : decode code 262 = .ok (.iadd, 1) := by decide +kernel
theorem d_L_263 : decode code 263 = .ok (.iaload, 1) := by decide +kernel
theorem d_L_264 : decode code 264 = .ok (.invokevirtual 28, 3) := by decide +kernel
theorem d_L_267 : decode code 267 = .ok (.aload_n 2, 1) := by decide +kernel
theorem d_L_268 : decode code 268 = .ok (.aload_n 0, 1) := by decide +kernel
theorem d_L_269 : decode code 269 = .ok (.iload_n 3, 1) := by decide +kernel
theorem d_L_270 : decode code 270 = .ok (.iconst 1, 1) := by decide +kernel
theorem d_L_271 : decode code 271 = .ok (.iadd, 1) := by decide +kernel
theorem d_L_272 : decode code 272 = .ok (.iaload, 1) := by decide +kernel
theorem d_L_273 : decode code 273 = .ok (.aload_n 0, 1) := by decide +kernel
theorem d_L_274 : decode code 274 = .ok (.iload_n 3, 1) := by decide +kernel
theorem d_L_275 : decode code 275 = .ok (.iconst 2, 1) := by decide +kernel
theorem d_L_276 : decode code 276 = .ok (.iadd, 1) := by decide +kernel
theorem d_L_277 : decode code 277 = .ok (.iaload, 1) := by decide +kernel
theorem d_L_278 : decode code 278 = .ok (.aload_n 0, 1) := by decide +kernel
theorem d_L_279 : decode code 279 = .ok (.iload_n 3, 1) := by decide +kernel
theorem d_L_280 : decode code 280 = .ok (.iconst 3, 1) := by decide +kernel
theorem d_L_281 : decode code 281 = .ok (.iadd, 1) := by decide +kernel
theorem d_L_282 : decode code 282 = .ok (.iaload, 1) := by decide +kernel
theorem d_L_283 : decode code 283 = .ok (.aload_n 0, 1) := by decide +kernel
theorem d_L_284 : decode code 284 = .ok (.iload_n 3, 1) := by decide +kernel
theorem d_L_285 : decode code 285 = .ok (.iconst 4, 1) := by decide +kernel
theorem d_L_286 : decode code 286 = .ok (.iadd, 1) := by decide +kernel
theorem d_L_287 : decode code 287 = .ok (.iaload, 1) := by decide +kernel
theorem d_L_288 : decode code 288 = .ok (.invokevirtual 32, 3) := by decide +kernel
theorem d_L_291 : decode code 291 = .ok (.if_icmp .eq 298, 3) := by decide +kernel
theorem d_L_294 : decode code 294 = .ok (.iconst 0, 1) := by decide +kernel
theorem d_L_295 : decode code 295 = .ok (.ireturn, 1) := by decide +kernel
theorem d_L_296 : decode code 296 = .ok (.aload_n 1, 1) := by decide +kernel
theorem d_L_297 : decode code 297 = .ok (.aload_n 0, 1) := by decide +kernel
theorem d_L_298 : decode code 298 = .ok (.iload_n 3, 1) := by decide +kernel
theorem d_L_299 : decode code 299 = .ok (.iconst 1, 1) := by decide +kernel
theorem d_L_300 : decode code 300 = .ok (.iadd, 1) := by decide +kernel
theorem d_L_301 : decode code 301 = .ok (.iaload, 1) := by decide +kernel
theorem d_L_302 : decode code 302 = .ok (.aload_n 0, 1) := by decide +kernel
theorem d_L_303 : decode code 303 = .ok (.iload_n 3, 1) := by decide +kernel
theorem d_L_304 : decode code 304 = .ok (.iconst 2, 1) := by decide +kernel
theorem d_L_305 : decode code 305 = .ok (.iadd, 1) := by decide +kernel
theorem d_L_306 : decode code 306 = .ok (.iaload, 1) := by decide +kernel
theorem d_L_307 : decode code 307 = .ok (.aload_n 0, 1) := by decide +kernel
theorem d_L_308 : decode code 308 = .ok (.iload_n 3, 1) := by decide +kernel
theorem d_L_309 : decode code 309 = .ok (.iconst 3, 1) := by decide +kernel
theorem d_L_310 : decode code 310 = .ok (.iadd, 1) := by decide +kernel
theorem d_L_311 : decode code 311 = .ok (.iaload, 1) := by decide +kernel
theorem d_L_312 : decode code 312 = .ok (.invokevirtual 33, 3) := by decide +kernel
theorem d_L_315 : decode code 315 = .ok (.aload_n 2, 1) := by decide +kernel
theorem d_L_316 : decode code 316 = .ok (.aload_n 0, 1) := by decide +kernel
theorem d_L_317 : decode code 317 = .ok (.iload_n 3, 1) := by decide +kernel
theorem d_L_318 : decode code 318 = .ok (.iconst 1, 1) := by decide +kernel
theorem d_L_319 : decode code 319 = .ok (.iadd, 1) := by decide +kernel
theorem d_L_320 : decode code 320 = .ok (.iaload, 1) := by decide +kernel
theorem d_L_321 : decode code 321 = .ok (.aload_n 0, 1) := by decide +kernel
theorem d_L_322 : decode code 322 = .ok (.iload_n 3, 1) := by decide +kernel
theorem d_L_323 : decode code 323 = .ok (.iconst 2, 1) := by decide +kernel
theorem d_L_324 : decode code 324 = .ok (.iadd, 1) := by decide +kernel
theorem d_L_325 : decode code 325 = .ok (.iaload, 1) := by decide +kernel
theorem d_L_326 : decode code 326 = .ok (.aload_n 0, 1) := by decide +kernel
theorem d_L_327 : decode code 327 = .ok (.iload_n 3, 1) := by decide +kernel
theorem d_L_328 : decode code 328 = .ok (.iconst 3, 1) := by decide +kernel
theorem d_L_329 : decode code 329 = .ok (.iadd, 1) := by decide +kernel
theorem d_L_330 : decode code 330 = .ok (.iaload, 1) := by decide +kernel
theorem d_L_331 : decode code 331 = .ok (.invokevirtual 36, 3) := by decide +kernel
theorem d_L_334 : decode code 334 = .ok (.if_icmp .eq 255, 3) := by decide +kernel
theorem d_L_337 : decode code 337 = .ok (.iconst 0, 1) := by decide +kernel
theorem d_L_338 : decode code 338 = .ok (.ireturn, 1) := by decide +kernel
theorem d_L_339 : decode code 339 = .ok (.aload_n 1, 1) := by decide +kernel
theorem d_L_340 : decode code 340 = .ok (.aload_n 0, 1) := by decide +kernel
theorem d_L_341 : decode code 341 = .ok (.iload_n 3, 1) := by decide +kernel
theorem d_L_342 : decode code 342 = .ok (.iconst 1, 1) := by decide +kernel
theorem d_L_343 : decode code 343 = .ok (.iadd, 1) := by decide +kernel
theorem d_L_344 : decode code 344 = .ok (.iaload, 1) := by decide +kernel
theorem d_L_345 : decode code 345 = .ok (.aload_n 0, 1) := by decide +kernel
theorem d_L_346 : decode code 346 = .ok (.iload_n 3, 1) := by decide +kernel
theorem d_L_347 : decode code 347 = .ok (.iconst 2, 1) := by decide +kernel
theorem d_L_348 : decode code 348 = .ok (.iadd, 1) := by decide +kernel
theorem d_L_349 : decode code 349 = .ok (.iaload, 1) := by decide +kernel
theorem d_L_350 : decode code 350 = .ok (.invokevirtual 37, 3) := by decide +kernel
theorem d_L_353 : decode code 353 = .ok (.aload_n 2, 1) := by decide +kernel
theorem d_L_354 : decode code 354 = .ok (.aload_n 0, 1) := by decide +kernel
theorem d_L_355 : decode code 355 = .ok (.iload_n 3, 1) := by decide +kernel
theorem d_L_356 : decode code 356 = .ok (.iconst 1, 1) := by decide +kernel
theorem d_L_357 : decode code 357 = .ok (.iadd, 1) := by decide +kernel
theorem d_L_358 : decode code 358 = .ok (.iaload, 1) := by decide +kernel
theorem d_L_359 : decode code 359 = .ok (.aload_n 0, 1) := by decide +kernel
theorem d_L_360 : decode code 360 = .ok (.iload_n 3, 1) := by decide +kernel
theorem d_L_361 : decode code 361 = .ok (.iconst 2, 1) := by decide +kernel
theorem d_L_362 : decode code 362 = .ok (.iadd, 1) := by decide +kernel
theorem d_L_363 : decode code 363 = .ok (.iaload, 1) := by decide +kernel
theorem d_L_364 : decode code 364 = .ok (.invokevirtual 40, 3) := by decide +kernel
theorem d_L_367 : decode code 367 = .ok (.if_icmp .eq 222, 3) := by decide +kernel
theorem d_L_370 : decode code 370 = .ok (.iconst 0, 1) := by decide +kernel
theorem d_L_371 : decode code 371 = .ok (.ireturn, 1) := by decide +kernel
theorem d_L_372 : decode code 372 = .ok (.aload_n 1, 1) := by decide +kernel
theorem d_L_373 : decode code 373 = .ok (.aload_n 0, 1) := by decide +kernel
theorem d_L_374 : decode code 374 = .ok (.iload_n 3, 1) := by decide +kernel
theorem d_L_375 : decode code 375 = .ok (.iconst 1, 1) := by decide +kernel
theorem d_L_376 : decode code 376 = .ok (.iadd, 1) := by decide +kernel
theorem d_L_377 : decode code 377 = .ok (.iaload, 1) := by decide +kernel
theorem d_L_378 : decode code 378 = .ok (.aload_n 0, 1) := by decide +kernel
theorem d_L_379 : decode code 379 = .ok (.iload_n 3, 1) := by decide +kernel
theorem d_L_380 : decode code 380 = .ok (.iconst 2, 1) := by decide +kernel
theorem d_L_381 : decode code 381 = .ok (.iadd, 1) := by decide +kernel
theorem d_L_382 : decode code 382 = .ok (.iaload, 1) := by decide +kernel
theorem d_L_383 : decode code 383 = .ok (.invokevirtual 41, 3) := by decide +kernel
theorem d_L_386 : decode code 386 = .ok (.aload_n 2, 1) := by decide +kernel
theorem d_L_387 : decode code 387 = .ok (.aload_n 0, 1) := by decide +kernel
theorem d_L_388 : decode code 388 = .ok (.iload_n 3, 1) := by decide +kernel
theorem d_L_389 : decode code 389 = .ok (.iconst 1, 1) := by decide +kernel
theorem d_L_390 : decode code 390 = .ok (.iadd, 1) := by decide +kernel
theorem d_L_391 : decode code 391 = .ok (.iaload, 1) := by decide +kernel
theorem d_L_392 : decode code 392 = .ok (.aload_n 0, 1) := by decide +kernel
theorem d_L_393 : decode code 393 = .ok (.iload_n 3, 1) := by decide +kernel
theorem d_L_394 : decode code 394 = .ok (.iconst 2, 1) := by decide +kernel
theorem d_L_395 : decode code 395 = .ok (.iadd, 1) := by decide +kernel
theorem d_L_396 : decode code 396 = .ok (.iaload, 1) := by decide +kernel
theorem d_L_397 : decode code 397 = .ok (.invokevirtual 44, 3) := by decide +kernel
theorem d_L_400 : decode code 400 = .ok (.if_icmp .eq 189, 3) := by decide +kernel
theorem d_L_403 : decode code 403 = .ok (.iconst 0, 1) := by decide +kernel
theorem d_L_404 : decode code 404 = .ok (.ireturn, 1) := by decide +kernel
theorem d_L_405 : decode code 405 = .ok (.aload_n 1, 1) := by decide +kernel
theorem d_L_406 : decode code 406 = .ok (.aload_n 0, 1) := by decide +kernel
theorem d_L_407 : decode code 407 = .ok (.iload_n 3, 1) := by decide +kernel
theorem d_L_408 : decode code 408 = .ok (.iconst 1, 1) := by decide +kernel
theorem d_L_409 : decode code 409 = .ok (.iadd, 1) := by decide +kernel
theorem d_L_410 : decode code 410 = .ok (.iaload, 1) := by decide +kernel
theorem d_L_411 : decode code 411 = .ok (.aload_n 0, 1) := by decide +kernel
theorem d_L_412 : decode code 412 = .ok (.iload_n 3, 1) := by decide +kernel
theorem d_L_413 : decode code 413 = .ok (.iconst 2, 1) := by decide +kernel
theorem d_L_414 : decode code 414 = .ok (.iadd, 1) := by decide +kernel
theorem d_L_415 : decode code 415 = .ok (.iaload, 1) := by decide +kernel
theorem d_L_416 : decode code 416 = .ok (.invokevirtual 45, 3) := by decide +kernel
theorem d_L_419 : decode code 419 = .ok (.aload_n 2, 1) := by decide +kernel
theorem d_L_420 : decode code 420 = .ok (.aload_n 0, 1) := by decide +kernel
theorem d_L_421 : decode code 421 = .ok (.iload_n 3, 1) := by decide +kernel
theorem d_L_422 : decode code 422 = .ok (.iconst 1, 1) := by decide +kernel
theorem d_L_423 : decode code 423 = .ok (.iadd, 1) := by decide +kernel
theorem d_L_424 : decode code 424 = .ok (.iaload, 1) := by decide +kernel
theorem d_L_425 : decode code 425 = .ok (.aload_n 0, 1) := by decide +kernel
theorem d_L_426 : decode code 426 = .ok (.iload_n 3, 1) := by decide +kernel
theorem d_L_427 : decode code 427 = .ok (.iconst 2, 1) := by decide +kernel
theorem d_L_428 : decode code 428 = .ok (.iadd, 1) := by decide +kernel
theorem d_L_429 : decode code 429 = .ok (.iaload, 1) := by decide +kernel
theorem d_L_430 : decode code 430 = .ok (.invokevirtual 48, 3) := by decide +kernel
theorem d_L_433 : decode code 433 = .ok (.if_icmp .eq 156, 3) := by decide +kernel
theorem d_L_436 : decode code 436 = .ok (.iconst 0, 1) := by decide +kernel
theorem d_L_437 : decode code 437 = .ok (.ireturn, 1) := by decide +kernel
theorem d_L_438 : decode code 438 = .ok (.aload_n 1, 1) := by decide +kernel
theorem d_L_439 : decode code 439 = .ok (.aload_n 0, 1) := by decide +kernel
theorem d_L_440 : decode code 440 = .ok (.iload_n 3, 1) := by decide +kernel
theorem d_L_441 : decode code 441 = .ok (.iconst 1, 1) := by decide +kernel
theorem d_L_442 : decode code 442 = .ok (.iadd, 1) := by decide +kernel
theorem d_L_443 : decode code 443 = .ok (.iaload, 1) := by decide +kernel
theorem d_L_444 : decode code 444 = .ok (.invokevirtual 49, 3) := by decide +kernel
theorem d_L_447 : decode code 447 = .ok (.aload_n 2, 1) := by decide +kernel
theorem d_L_448 : decode code 448 = .ok (.aload_n 0, 1) := by decide +kernel
theorem d_L_449 : decode code 449 = .ok (.iload_n 3, 1) := by decide +kernel
theorem d_L_450 : decode code 450 = .ok (.iconst 1, 1) := by decide +kernel
theorem d_L_451 : decode code 451 = .ok (.iadd, 1) := by decide +kernel
theorem d_L_452 : decode code 452 = .ok (.iaload, 1) := by decide +kernel
theorem d_L_453 : decode code 453 = .ok (.invokevirtual 53, 3) := by decide +kernel
theorem d_L_456 : decode code 456 = .ok (.if_icmp .eq 133, 3) := by decide +kernel
theorem d_L_459 : decode code 459 = .ok (.iconst 0, 1) := by decide +kernel
theorem d_L_460 : decode code 460 = .ok (.ireturn, 1) := by decide +kernel
theorem d_L_461 : decode code 461 = .ok (.aload_n 1, 1) := by decide +kernel
theorem d_L_462 : decode code 462 = .ok (.invokevirtual 54, 3) := by decide +kernel
theorem d_L_465 : decode code 465 = .ok (.aload_n 2, 1) := by decide +kernel
theorem d_L_466 : decode code 466 = .ok (.invokevirtual 58, 3) := by decide +kernel
theorem d_L_469 : decode code 469 = .ok (.if_icmp .eq 120, 3) := by decide +kernel
theorem d_L_472 : decode code 472 = .ok (.iconst 0, 1) := by decide +kernel
theorem d_L_473 : decode code 473 = .ok (.ireturn, 1) := by decide +kernel
theorem d_L_474 : decode code 474 = .ok (.aload_n 1, 1) := by decide +kernel
theorem d_L_475 : decode code 475 = .ok (.invokevirtual 59, 3) := by decide +kernel
theorem d_L_478 : decode code 478 = .ok (.aload_n 2, 1) := by decide +kernel
theorem d_L_479 : decode code 479 = .ok (.invokevirtual 63, 3) := by decide +kernel
theorem d_L_482 : decode code 482 = .ok (.if_icmp .eq 107, 3) := by decide +kernel
theorem d_L_485 : decode code 485 = .ok (.iconst 0, 1) := by decide +kernel
theorem d_L_486 : decode code 486 = .ok (.ireturn, 1) := by decide +kernel
theorem d_L_487 : decode code 487 = .ok (.aload_n 1, 1) := by decide +kernel
theorem d_L_488 : decode code 488 = .ok (.invokevirtual 64, 3) := by decide +kernel
theorem d_L_491 : decode code 491 = .ok (.aload_n 2, 1) := by decide +kernel
theorem d_L_492 : decode code 492 = .ok (.invokevirtual 67, 3) := by decide +kernel
theorem d_L_495 : decode code 495 = .ok (.if_icmp .eq 94, 3) := by decide +kernel
theorem d_L_498 : decode code 498 = .ok (.iconst 0, 1) := by decide +kernel
theorem d_L_499 : decode code 499 = .ok (.ireturn, 1) := by decide +kernel
theorem d_L_500 : decode code 500 = .ok (.aload_n 1, 1) := by decide +kernel
theorem d_L_501 : decode code 501 = .ok (.aload_n 0, 1) := by decide +kernel
theorem d_L_502 : decode code 502 = .ok (.iload_n 3, 1) := by decide +kernel
theorem d_L_503 : decode code 503 = .ok (.iconst 1, 1) := by decide +kernel
theorem d_L_504 : decode code 504 = .ok (.iadd, 1) := by decide +kernel
theorem d_L_505 : decode code 505 = .ok (.iaload, 1) := by decide +kernel
theorem d_L_506 : decode code 506 = .ok (.invokevirtual 68, 3) := by decide +kernel
theorem d_L_509 : decode code 509 = .ok (.aload_n 2, 1) := by decide +kernel
theorem d_L_510 : decode code 510 = .ok (.aload_n 0, 1) := by decide +kernel
theorem d_L_511 : decode code 511 = .ok (.iload_n 3, 1) := by decide +kernel
theorem d_L_512 : decode code 512 = .ok (.iconst 1, 1) := by decide +kernel
theorem d_L_513 : decode code 513 = .ok (.iadd, 1) := by decide +kernel
theorem d_L_514 : decode code 514 = .ok (.iaload, 1) := by decide +kernel
theorem d_L_515 : decode code 515 = .ok (.invokevirtual 71, 3) := by decide +kernel
theorem d_L_518 : decode code 518 = .ok (.if_icmp .eq 71, 3) := by decide +kernel
theorem d_L_521 : decode code 521 = .ok (.iconst 0, 1) := by decide +kernel
theorem d_L_522 : decode code 522 = .ok (.ireturn, 1) := by decide +kernel
theorem d_L_523 : decode code 523 = .ok (.aload_n 1, 1) := by decide +kernel
theorem d_L_524 : decode code 524 = .ok (.aload_n 0, 1) := by decide +kernel
theorem d_L_525 : decode code 525 = .ok (.iload_n 3, 1) := by decide +kernel
theorem d_L_526 : decode code 526 = .ok (.iconst 1, 1) := by decide +kernel
theorem d_L_527 : decode code 527 = .ok (.iadd, 1) := by decide +kernel
theorem d_L_528 : decode code 528 = .ok (.iaload, 1) := by decide +kernel
theorem d_L_529 : decode code 529 = .ok (.aload_n 0, 1) := by decide +kernel
theorem d_L_530 : decode code 530 = .ok (.iload_n 3, 1) := by decide +kernel
theorem d_L_531 : decode code 531 = .ok (.iconst 2, 1) := by decide +kernel
theorem d_L_532 : decode code 532 = .ok (.iadd, 1) := by decide +kernel
theorem d_L_533 : decode code 533 = .ok (.iaload, 1) := by decide +kernel
theorem d_L_534 : decode code 534 = .ok (.invokevirtual 72, 3) := by decide +kernel
theorem d_L_537 : decode code 537 = .ok (.aload_n 2, 1) := by decide +kernel
theorem d_L_538 : decode code 538 = .ok (.aload_n 0, 1) := by decide +kernel
theorem d_L_539 : decode code 539 = .ok (.iload_n 3, 1) := by decide +kernel
theorem d_L_540 : decode code 540 = .ok (.iconst 1, 1) := by decide +kernel
theorem d_L_541 : decode code 541 = .ok (.iadd, 1) := by decide +kernel
theorem d_L_542 : decode code 542 = .ok (.iaload, 1) := by decide +kernel
theorem d_L_543 : decode code 543 = .ok (.aload_n 0, 1) := by decide +kernel
theorem d_L_544 : decode code 544 = .ok (.iload_n 3, 1) := by decide +kernel
theorem d_L_545 : decode code 545 = .ok (.iconst 2, 1) := by decide +kernel
theorem d_L_546 : decode code 546 = .ok (.iadd, 1) := by decide +kernel
theorem d_L_547 : decode code 547 = .ok (.iaload, 1) := by decide +kernel
theorem d_L_548 : decode code 548 = .ok (.invokevirtual 75, 3) := by decide +kernel
theorem d_L_551 : decode code 551 = .ok (.if_icmp .eq 38, 3) := by decide +kernel
theorem d_L_554 : decode code 554 = .ok (.iconst 0, 1) := by decide +kernel
theorem d_L_555 : decode code 555 = .ok (.ireturn, 1) := by decide +kernel
theorem d_L_556 : decode code 556 = .ok (.aload_n 1, 1) := by decide +kernel
theorem d_L_557 : decode code 557 = .ok (.aload_n 0, 1) := by decide +kernel
theorem d_L_558 : decode code 558 = .ok (.iload_n 3, 1) := by decide +kernel
theorem d_L_559 : decode code 559 = .ok (.iconst 1, 1) := by decide +kernel
theorem d_L_560 : decode code 560 = .ok (.iadd, 1) := by decide +kernel
theorem d_L_561 : decode code 561 = .ok (.iaload, 1) := by decide +kernel
theorem d_L_562 : decode code 562 = .ok (.aload_n 0, 1) := by decide +kernel
theorem d_L_563 : decode code 563 = .ok (.iload_n 3, 1) := by decide +kernel
theorem d_L_564 : decode code 564 = .ok (.iconst 2, 1) := by decide +kernel
theorem d_L_565 : decode code 565 = .ok (.iadd, 1) := by decide +kernel
theorem d_L_566 : decode code 566 = .ok (.iaload, 1) := by decide +kernel
theorem d_L_567 : decode code 567 = .ok (.invokevirtual 76, 3) := by decide +kernel
theorem d_L_570 : decode code 570 = .ok (.aload_n 2, 1) := by decide +kernel
theorem d_L_571 : decode code 571 = .ok (.aload_n 0, 1) := by decide +kernel
theorem d_L_572 : decode code 572 = .ok (.iload_n 3, 1) := by decide +kernel
theorem d_L_573 : decode code 573 = .ok (.iconst 1, 1) := by decide +kernel
theorem d_L_574 : decode code 574 = .ok (.iadd, 1) := by decide +kernel
theorem d_L_575 : decode code 575 = .ok (.iaload, 1) := by decide +kernel
theorem d_L_576 : decode code 576 = .ok (.aload_n 0, 1) := by decide +kernel
theorem d_L_577 : decode code 577 = .ok (.iload_n 3, 1) := by decide +kernel
theorem d_L_578 : decode code 578 = .ok (.iconst 2, 1) := by decide +kernel
theorem d_L_579 : decode code 579 = .ok (.iadd, 1) := by decide +kernel
theorem d_L_580 : decode code 580 = .ok (.iaload, 1) := by decide +kernel
theorem d_L_581 : decode code 581 = .ok (.invokevirtual 79, 3) := by decide +kernel
theorem d_L_584 : decode code 584 = .ok (.if_icmp .eq 5, 3) := by decide +kernel
theorem d_L_587 : decode code 587 = .ok (.iconst 0, 1) := by decide +kernel
theorem d_L_588 : decode code 588 = .ok (.ireturn, 1) := by decide +kernel
theorem d_L_589 : decode code 589 = .ok (.iinc 3 5, 3) := by decide +kernel
theorem d_L_592 : decode code 592 = .ok (.goto (-574), 3) := by decide +kernel
theorem d_L_595 : decode code 595 = .ok (.iconst 1, 1) := by decide +kernel
theorem d_L_596 : decode code 596 = .ok (.ireturn, 1) := by decide +kernel
theorem k_L_13 : cw_V "OrderedVolumeLaw" 13 "OrderedVolume" y_V_create b_V_create 7 (some .int) 3 := ⟨wA_t 78 (by decide +kernel) (by decide +kernel), wA_t 75 (by decide +kernel) (by decide +kernel), wA_t 76 (by decide +kernel) (by decide +kernel), wA_t 77 (by decide +kernel) (by decide +kernel), wA_t 1 (by decide +kernel) (by decide +kernel), rfl, by decide, by decide, by decide +kernel⟩
theorem k_L_17 : cw_V "OrderedVolumeLaw" 17 "OrderedVolumeModel" y_R_create b_R_create 6 (some .int) 3 := ⟨wA_t 451 (by decide +kernel) (by decide +kernel), wA_t 448 (by decide +kernel) (by decide +kernel), wA_t 449 (by decide +kernel) (by decide +kernel), wA_t 450 (by decide +kernel) (by decide +kernel), wA_t 3 (by decide +kernel) (by decide +kernel), rfl, by decide, by decide, by decide +kernel⟩
theorem k_L_18 : cw_V "OrderedVolumeLaw" 18 "OrderedVolume" y_V_link b_V_link 6 (some .int) 3 := ⟨wA_t 282 (by decide +kernel) (by decide +kernel), wA_t 279 (by decide +kernel) (by decide +kernel), wA_t 280 (by decide +kernel) (by decide +kernel), wA_t 281 (by decide +kernel) (by decide +kernel), wA_t 1 (by decide +kernel) (by decide +kernel), rfl, by decide, by decide, by decide +kernel⟩
theorem k_L_22 : cw_V "OrderedVolumeLaw" 22 "OrderedVolumeModel" y_R_link b_R_link 4 (some .int) 3 := ⟨wA_t 573 (by decide +kernel) (by decide +kernel), wA_t 570 (by decide +kernel) (by decide +kernel), wA_t 571 (by decide +kernel) (by decide +kernel), wA_t 572 (by decide +kernel) (by decide +kernel), wA_t 3 (by decide +kernel) (by decide +kernel), rfl, by decide, by decide, by decide +kernel⟩
theorem k_L_23 : cw_V "OrderedVolumeLaw" 23 "OrderedVolume" y_V_remove b_V_remove 5 (some .int) 2 := ⟨wA_t 290 (by decide +kernel) (by decide +kernel), wA_t 287 (by decide +kernel) (by decide +kernel), wA_t 288 (by decide +kernel) (by decide +kernel), wA_t 289 (by decide +kernel) (by decide +kernel), wA_t 1 (by decide +kernel) (by decide +kernel), rfl, by decide, by decide, by decide +kernel⟩
theorem k_L_27 : cw_V "OrderedVolumeLaw" 27 "OrderedVolumeModel" y_R_remove b_R_remove 5 (some .int) 2 := ⟨wA_t 577 (by decide +kernel) (by decide +kernel), wA_t 574 (by decide +kernel) (by decide +kernel), wA_t 575 (by decide +kernel) (by decide +kernel), wA_t 576 (by decide +kernel) (by decide +kernel), wA_t 3 (by decide +kernel) (by decide +kernel), rfl, by decide, by decide, by decide +kernel⟩
theorem k_L_28 : cw_V "OrderedVolumeLaw" 28 "OrderedVolume" y_V_rename b_V_rename 9 (some .int) 4 := ⟨wA_t 299 (by decide +kernel) (by decide +kernel), wA_t 296 (by decide +kernel) (by decide +kernel), wA_t 297 (by decide +kernel) (by decide +kernel), wA_t 298 (by decide +kernel) (by decide +kernel), wA_t 1 (by decide +kernel) (by decide +kernel), rfl, by decide, by decide, by decide +kernel⟩
theorem k_L_32 : cw_V "OrderedVolumeLaw" 32 "OrderedVolumeModel" y_R_rename b_R_rename 8 (some .int) 4 := ⟨wA_t 589 (by decide +kernel) (by decide +kernel), wA_t 586 (by decide +kernel) (by decide +kernel), wA_t 587 (by decide +kernel) (by decide +kernel), wA_t 588 (by decide +kernel) (by decide +kernel), wA_t 3 (by decide +kernel) (by decide +kernel), rfl, by decide, by decide, by decide +kernel⟩
theorem k_L_33 : cw_V "OrderedVolumeLaw" 33 "OrderedVolume" y_V_write b_V_write 6 (some .int) 3 := ⟨wA_t 303 (by decide +kernel) (by decide +kernel), wA_t 300 (by decide +kernel) (by decide +kernel), wA_t 301 (by decide +kernel) (by decide +kernel), wA_t 302 (by decide +kernel) (by decide +kernel), wA_t 1 (by decide +kernel) (by decide +kernel), rfl, by decide, by decide, by decide +kernel⟩
theorem k_L_36 : cw_V "OrderedVolumeLaw" 36 "OrderedVolumeModel" y_R_write b_R_write 6 (some .int) 3 := ⟨wA_t 593 (by decide +kernel) (by decide +kernel), wA_t 590 (by decide +kernel) (by decide +kernel), wA_t 591 (by decide +kernel) (by decide +kernel), wA_t 592 (by decide +kernel) (by decide +kernel), wA_t 3 (by decide +kernel) (by decide +kernel), rfl, by decide, by decide, by decide +kernel⟩
theorem k_L_37 : cw_V "OrderedVolumeLaw" 37 "OrderedVolume" y_V_read b_V_read 4 (some .int) 2 := ⟨wA_t 314 (by decide +kernel) (by decide +kernel), wA_t 311 (by decide +kernel) (by decide +kernel), wA_t 312 (by decide +kernel) (by decide +kernel), wA_t 313 (by decide +kernel) (by decide +kernel), wA_t 1 (by decide +kernel) (by decide +kernel), rfl, by decide, by decide, by decide +kernel⟩
theorem k_L_40 : cw_V "OrderedVolumeLaw" 40 "OrderedVolumeModel" y_R_read b_R_read 4 (some .int) 2 := ⟨wA_t 601 (by decide +kernel) (by decide +kernel), wA_t 598 (by decide +kernel) (by decide +kernel), wA_t 599 (by decide +kernel) (by decide +kernel), wA_t 600 (by decide +kernel) (by decide +kernel), wA_t 3 (by decide +kernel) (by decide +kernel), rfl, by decide, by decide, by decide +kernel⟩
theorem k_L_41 : cw_V "OrderedVolumeLaw" 41 "OrderedVolume" y_V_cut b_V_cut 4 (some .int) 2 := ⟨wA_t 318 (by decide +kernel) (by decide +kernel), wA_t 315 (by decide +kernel) (by decide +kernel), wA_t 316 (by decide +kernel) (by decide +kernel), wA_t 317 (by decide +kernel) (by decide +kernel), wA_t 1 (by decide +kernel) (by decide +kernel), rfl, by decide, by decide, by decide +kernel⟩
theorem k_L_44 : cw_V "OrderedVolumeLaw" 44 "OrderedVolumeModel" y_R_cut b_R_cut 5 (some .int) 2 := ⟨wA_t 605 (by decide +kernel) (by decide +kernel), wA_t 602 (by decide +kernel) (by decide +kernel), wA_t 603 (by decide +kernel) (by decide +kernel), wA_t 604 (by decide +kernel) (by decide +kernel), wA_t 3 (by decide +kernel) (by decide +kernel), rfl, by decide, by decide, by decide +kernel⟩
theorem k_L_45 : cw_V "OrderedVolumeLaw" 45 "OrderedVolume" y_V_lookup b_V_lookup 4 (some .int) 2 := ⟨wA_t 322 (by decide +kernel) (by decide +kernel), wA_t 319 (by decide +kernel) (by decide +kernel), wA_t 320 (by decide +kernel) (by decide +kernel), wA_t 321 (by decide +kernel) (by decide +kernel), wA_t 1 (by decide +kernel) (by decide +kernel), rfl, by decide, by decide, by decide +kernel⟩
theorem k_L_48 : cw_V "OrderedVolumeLaw" 48 "OrderedVolumeModel" y_R_lookup b_R_lookup 4 (some .int) 2 := ⟨wA_t 581 (by decide +kernel) (by decide +kernel), wA_t 606 (by decide +kernel) (by decide +kernel), wA_t 579 (by decide +kernel) (by decide +kernel), wA_t 580 (by decide +kernel) (by decide +kernel), wA_t 3 (by decide +kernel) (by decide +kernel), rfl, by decide, by decide, by decide +kernel⟩
theorem k_L_49 : cw_V "OrderedVolumeLaw" 49 "OrderedVolume" y_V_flush b_V_flush 2 (some .int) 1 := ⟨wA_t 326 (by decide +kernel) (by decide +kernel), wA_t 323 (by decide +kernel) (by decide +kernel), wA_t 324 (by decide +kernel) (by decide +kernel), wA_t 325 (by decide +kernel) (by decide +kernel), wA_t 1 (by decide +kernel) (by decide +kernel), rfl, by decide, by decide, by decide +kernel⟩
theorem k_L_53 : cw_V "OrderedVolumeLaw" 53 "OrderedVolumeModel" y_R_flush b_R_flush 4 (some .int) 1 := ⟨wA_t 525 (by decide +kernel) (by decide +kernel), wA_t 607 (by decide +kernel) (by decide +kernel), wA_t 523 (by decide +kernel) (by decide +kernel), wA_t 524 (by decide +kernel) (by decide +kernel), wA_t 3 (by decide +kernel) (by decide +kernel), rfl, by decide, by decide, by decide +kernel⟩
theorem k_L_54 : cw_V "OrderedVolumeLaw" 54 "OrderedVolume" y_V_sync b_V_sync 1 (some .int) 0 := ⟨wA_t 330 (by decide +kernel) (by decide +kernel), wA_t 327 (by decide +kernel) (by decide +kernel), wA_t 328 (by decide +kernel) (by decide +kernel), wA_t 329 (by decide +kernel) (by decide +kernel), wA_t 1 (by decide +kernel) (by decide +kernel), rfl, by decide, by decide, by decide +kernel⟩
theorem k_L_58 : cw_V "OrderedVolumeLaw" 58 "OrderedVolumeModel" y_R_sync b_R_sync 3 (some .int) 0 := ⟨wA_t 506 (by decide +kernel) (by decide +kernel), wA_t 608 (by decide +kernel) (by decide +kernel), wA_t 504 (by decide +kernel) (by decide +kernel), wA_t 505 (by decide +kernel) (by decide +kernel), wA_t 3 (by decide +kernel) (by decide +kernel), rfl, by decide, by decide, by decide +kernel⟩
theorem k_L_59 : cw_V "OrderedVolumeLaw" 59 "OrderedVolume" y_V_crash b_V_crash 2 (some .boolean) 0 := ⟨wA_t 334 (by decide +kernel) (by decide +kernel), wA_t 331 (by decide +kernel) (by decide +kernel), wA_t 332 (by decide +kernel) (by decide +kernel), wA_t 333 (by decide +kernel) (by decide +kernel), wA_t 1 (by decide +kernel) (by decide +kernel), rfl, by decide, by decide, by decide +kernel⟩
theorem k_L_63 : cw_V "OrderedVolumeLaw" 63 "OrderedVolumeModel" y_R_crash b_R_crash 2 (some .boolean) 0 := ⟨wA_t 612 (by decide +kernel) (by decide +kernel), wA_t 609 (by decide +kernel) (by decide +kernel), wA_t 610 (by decide +kernel) (by decide +kernel), wA_t 611 (by decide +kernel) (by decide +kernel), wA_t 3 (by decide +kernel) (by decide +kernel), rfl, by decide, by decide, by decide +kernel⟩
theorem k_L_64 : cw_V "OrderedVolumeLaw" 64 "OrderedVolume" y_V_reclaim b_V_reclaim 4 (some .int) 0 := ⟨wA_t 338 (by decide +kernel) (by decide +kernel), wA_t 335 (by decide +kernel) (by decide +kernel), wA_t 336 (by decide +kernel) (by decide +kernel), wA_t 337 (by decide +kernel) (by decide +kernel), wA_t 1 (by decide +kernel) (by decide +kernel), rfl, by decide, by decide, by decide +kernel⟩
theorem k_L_67 : cw_V "OrderedVolumeLaw" 67 "OrderedVolumeModel" y_R_reclaim b_R_reclaim 4 (some .int) 0 := ⟨wA_t 616 (by decide +kernel) (by decide +kernel), wA_t 613 (by decide +kernel) (by decide +kernel), wA_t 614 (by decide +kernel) (by decide +kernel), wA_t 615 (by decide +kernel) (by decide +kernel), wA_t 3 (by decide +kernel) (by decide +kernel), rfl, by decide, by decide, by decide +kernel⟩
theorem k_L_68 : cw_V "OrderedVolumeLaw" 68 "OrderedVolume" y_V_defects b_V_defects 3 (some .int) 1 := ⟨wA_t 354 (by decide +kernel) (by decide +kernel), wA_t 351 (by decide +kernel) (by decide +kernel), wA_t 352 (by decide +kernel) (by decide +kernel), wA_t 353 (by decide +kernel) (by decide +kernel), wA_t 1 (by decide +kernel) (by decide +kernel), rfl, by decide, by decide, by decide +kernel⟩
theorem k_L_71 : cw_V "OrderedVolumeLaw" 71 "OrderedVolumeModel" y_R_defects b_R_defects 6 (some .int) 1 := ⟨wA_t 628 (by decide +kernel) (by decide +kernel), wA_t 625 (by decide +kernel) (by decide +kernel), wA_t 626 (by decide +kernel) (by decide +kernel), wA_t 627 (by decide +kernel) (by decide +kernel), wA_t 3 (by decide +kernel) (by decide +kernel), rfl, by decide, by decide, by decide +kernel⟩
theorem k_L_72 : cw_V "OrderedVolumeLaw" 72 "OrderedVolume" y_V_image b_V_image 3 (some .int) 2 := ⟨wA_t 386 (by decide +kernel) (by decide +kernel), wA_t 383 (by decide +kernel) (by decide +kernel), wA_t 384 (by decide +kernel) (by decide +kernel), wA_t 385 (by decide +kernel) (by decide +kernel), wA_t 1 (by decide +kernel) (by decide +kernel), rfl, by decide, by decide, by decide +kernel⟩
theorem k_L_75 : cw_V "OrderedVolumeLaw" 75 "OrderedVolumeModel" y_R_image b_R_image 3 (some .int) 2 := ⟨wA_t 636 (by decide +kernel) (by decide +kernel), wA_t 633 (by decide +kernel) (by decide +kernel), wA_t 634 (by decide +kernel) (by decide +kernel), wA_t 635 (by decide +kernel) (by decide +kernel), wA_t 3 (by decide +kernel) (by decide +kernel), rfl, by decide, by decide, by decide +kernel⟩
theorem k_L_76 : cw_V "OrderedVolumeLaw" 76 "OrderedVolume" y_V_cached b_V_cached 3 (some .int) 2 := ⟨wA_t 395 (by decide +kernel) (by decide +kernel), wA_t 392 (by decide +kernel) (by decide +kernel), wA_t 393 (by decide +kernel) (by decide +kernel), wA_t 394 (by decide +kernel) (by decide +kernel), wA_t 1 (by decide +kernel) (by decide +kernel), rfl, by decide, by decide, by decide +kernel⟩
theorem k_L_79 : cw_V "OrderedVolumeLaw" 79 "OrderedVolumeModel" y_R_cached b_R_cached 3 (some .int) 2 := ⟨wA_t 644 (by decide +kernel) (by decide +kernel), wA_t 641 (by decide +kernel) (by decide +kernel), wA_t 642 (by decide +kernel) (by decide +kernel), wA_t 643 (by decide +kernel) (by decide +kernel), wA_t 3 (by decide +kernel) (by decide +kernel), rfl, by decide, by decide, by decide +kernel⟩
abbrev o_L : Cond := .initialized "OrderedVolumeLaw"
abbrev lwC (p : Program) (s : State) (m : MethodId) (meth : Method) (c : Code) (b L : Nat) (xs : Nat → Int32) (D : va_G) (cI cZ : ClassId) : Prop := CallFix p m c code 4 s #[Value.ref b] (o_L :: wA) "OrderedVolumeLaw" ∧ meth.sig.returnType = ret ∧ meth.locks = false ∧ va_K D clA (tyA cI cZ) s ∧ nw_all s ∧ va_X b L xs s s.heap ∧ b < s.heap.size
def LGo (p : Program) (l : Launch) (e : Env) (s : State) (m : MethodId) (below : List Frame) (meth : Method) (c : Code) (b : Nat) (D : va_G) (cI cZ : ClassId) (Rl : RlT) (v0 v1 v2 v3 v4 v5 v6 v7 v8 v9 v10 v11 v12 v13 v14 v15 y0 y1 y2 y3 y4 y5 y6 y7 y8 y9 y10 y11 : Nat) (pc n k : Nat) : Prop := ∀ (v_m_maps : AR) (v_m_tables : AR) (v_m_words : AR) (v_m_blank : AR) (v_m_queue : AR) (v_d_maps : AR) (v_d_tables : AR) (v_d_words : AR) (v_d_blank : AR) (v_d_queue : AR) (v_young : AR) (v_dropped : AR) (v_leaving : AR) (v_ren : Int32) (r_mem : AR) (r_dsk : AR) (r_fresh : AR) (r_young : AR) (r_dropped : AR) (r_released : AR) (r_owed : AR) (r_counted : AR) (r_inMemory : AR) (r_onDisk : AR) (r_thn : AR) (r_moved : Int32) (H : Heap) (locs : List Loc) (ls : Array Slot), Rl n v_m_maps v_m_tables v_m_words v_m_blank v_m_queue v_d_maps v_d_tables v_d_words v_d_blank v_d_queue v_young v_dropped v_leaving v_ren r_mem r_dsk r_fresh r_young r_dropped r_released r_owed r_counted r_inMemory r_onDisk r_thn r_moved → lv_has ls 4 [(3, .int (nI k)), (0, .ref b), (1, .ref v0), (2, .ref y0)] → va_P D clA (w_V cI cZ v0 v1 v2 v3 v4 v5 v6 v7 v8 v9 v10 v11 v12 v13 v14 v15 v_m_maps v_m_tables v_m_words v_m_blank v_m_queue v_d_maps v_d_tables v_d_words v_d_blank v_d_queue v_young v_dropped v_leaving v_ren ++ w_R cI cZ y0 y1 y2 y3 y4 y5 y6 y7 y8 y9 y10 y11 r_mem r_dsk r_fresh r_young r_dropped r_released r_owed r_counted r_inMemory r_onDisk r_thn r_moved) H → va_D (fun q => s.heap.size ≤ q) (w_V cI cZ v0 v1 v2 v3 v4 v5 v6 v7 v8 v9 v10 v11 v12 v13 v14 v15 v_m_maps v_m_tables v_m_words v_m_blank v_m_queue v_d_maps v_d_tables v_d_words v_d_blank v_d_queue v_young v_dropped v_leaving v_ren ++ w_R cI cZ y0 y1 y2 y3 y4 y5 y6 y7 y8 y9 y10 y11 r_mem r_dsk r_fresh r_young r_dropped r_released r_owed r_counted r_inMemory r_onDisk r_thn r_moved) → va_S (fun q => s.heap.size ≤ q) s.heap H locs → W p l e room_1 s m #[Value.ref b] below meth c H locs 28 3706 (lw_Z below #[Value.ref b] s) (F0 m pc ls [])
set_option maxHeartbeats 4000000 in
set_option maxRecDepth 100000 in
theorem w_L_create_0 {p : Program} {l : Launch} {e : Env} {s : State} {m : MethodId} {below : List Frame} {meth : Method} {c : Code} {b L : Nat} {xs : Nat → Int32} {D : va_G} {cI cZ : ClassId} (F : Nat) (Rl : RlT) (hst : St_create F Rl) (cx : lwC p s m meth c b L xs D cI cZ) (v0 v1 v2 v3 v4 v5 v6 v7 v8 v9 v10 v11 v12 v13 v14 v15 y0 y1 y2 y3 y4 y5 y6 y7 y8 y9 y10 y11 n : Nat) (hL : L ≤ 2560) (hk : 5 * n + 5 ≤ L) (hz : xs (nI (5 * n) + nI 3).toNatClampNeg = 0) (kk : LGo p l e s m below meth c b D cI cZ Rl v0 v1 v2 v3 v4 v5 v6 v7 v8 v9 v10 v11 v12 v13 v14 v15 y0 y1 y2 y3 y4 y5 y6 y7 y8 y9 y10 y11 589 (n + 1) (5 * n)) : LGo p l e s m below meth c b D cI cZ Rl v0 v1 v2 v3 v4 v5 v6 v7 v8 v9 v10 v11 v12 v13 v14 v15 y0 y1 y2 y3 y4 y5 y6 y7 y8 y9 y10 y11 108 n (5 * n) := by
  obtain ⟨cf, hr, hlk, hK, hN, hX, hbl⟩ := cx
  have hx := cf.1
  have hb := cf.2.1
  have hown := cf.2.2.2.1
  have hA : ∀ q : Nat, s.heap.size ≤ q → (fun q => s.heap.size ≤ q) q := fun q h => h
  have hbA : ¬ (fun q => s.heap.size ≤ q) b := Nat.not_le.mpr hbl
  intro v_m_maps v_m_tables v_m_words v_m_blank v_m_queue v_d_maps v_d_tables v_d_words v_d_blank v_d_queue v_young v_dropped v_leaving v_ren r_mem r_dsk r_fresh r_young r_dropped r_released r_owed r_counted r_inMemory r_onDisk r_thn r_moved H locs ls hRl hl hP hD hS
  refine lv_aload_n hx hb d_L_108 rfl (lv_at hl 2 rfl) ?_
  refine lv_aload_n hx hb d_L_109 rfl (lv_at hl 1 rfl) ?_
  refine lv_iload_n hx hb d_L_110 rfl (lv_at hl 0 rfl) ?_
  refine lv_iconst (v := (nI 1)) hx hb d_L_111 (by decide) ?_
  refine lv_iadd hx hb d_L_112 ?_
  refine va_sld hx hb hX hbl hbA hS (by rw [nI_add]; exact vp_in_nI (by omega) (by omega)) d_L_113 ?_
  refine lv_aload_n hx hb d_L_114 rfl (lv_at hl 1 rfl) ?_
  refine lv_iload_n hx hb d_L_115 rfl (lv_at hl 0 rfl) ?_
  refine lv_iconst (v := (nI 2)) hx hb d_L_116 (by decide) ?_
  refine lv_iadd hx hb d_L_117 ?_
  refine va_sld hx hb hX hbl hbA hS (by rw [nI_add]; exact vp_in_nI (by omega) (by omega)) d_L_118 ?_
  refine lv_aload_n hx hb d_L_119 rfl (lv_at hl 1 rfl) ?_
  refine lv_iload_n hx hb d_L_120 rfl (lv_at hl 0 rfl) ?_
  refine lv_iconst (v := (nI 3)) hx hb d_L_121 (by decide) ?_
  refine lv_iadd hx hb d_L_122 ?_
  refine va_sld hx hb hX hbl hbA hS (by rw [nI_add]; exact vp_in_nI (by omega) (by omega)) d_L_123 ?_
  refine lv_if_eq hx hb d_L_124 rfl (fun hc => ?_) (fun hc => absurd hz hc)
  refine lv_iconst (v := (nI 0)) hx hb d_L_131 (by decide) ?_
  obtain ⟨r, v_m_maps', v_m_tables', v_m_words', v_m_queue', v_d_maps', v_d_tables', v_d_words', v_d_blank', v_d_queue', v_young', v_dropped', v_leaving', v_ren', r_young', r_dropped', r_mem', r_dsk', r_fresh', r_released', r_owed', r_counted', r_inMemory', r_onDisk', r_thn', r_moved', e1, e2, hR⟩ := hst n v_m_maps v_m_tables v_m_words v_m_blank v_m_queue v_d_maps v_d_tables v_d_words v_d_blank v_d_queue v_young v_dropped v_leaving v_ren r_mem r_dsk r_fresh r_young r_dropped r_released r_owed r_counted r_inMemory r_onDisk r_thn r_moved (xs ((nI (5 * n)) + (nI 1)).toNatClampNeg) (xs ((nI (5 * n)) + (nI 2)).toNatClampNeg) (nI 0) (by omega) hRl (Or.inl rfl)
  refine wk_ViC (As := [.int (xs ((nI (5 * n)) + (nI 1)).toNatClampNeg), .int (xs ((nI (5 * n)) + (nI 2)).toNatClampNeg), .int (nI 0)]) (rest := []) (wc := w_V cI cZ v0 v1 v2 v3 v4 v5 v6 v7 v8 v9 v10 v11 v12 v13 v14 v15 v_m_maps v_m_tables v_m_words v_m_blank v_m_queue v_d_maps v_d_tables v_d_words v_d_blank v_d_queue v_young v_dropped v_leaving v_ren) (w1 := w_V cI cZ v0 v1 v2 v3 v4 v5 v6 v7 v8 v9 v10 v11 v12 v13 v14 v15 v_m_maps' v_m_tables' v_m_words' v_m_blank v_m_queue' v_d_maps' v_d_tables' v_d_words' v_d_blank' v_d_queue' v_young' v_dropped' v_leaving' v_ren') (wr := w_R cI cZ y0 y1 y2 y3 y4 y5 y6 y7 y8 y9 y10 y11 r_mem r_dsk r_fresh r_young r_dropped r_released r_owed r_counted r_inMemory r_onDisk r_thn r_moved) (wz := (w_V cI cZ v0 v1 v2 v3 v4 v5 v6 v7 v8 v9 v10 v11 v12 v13 v14 v15 v_m_maps' v_m_tables' v_m_words' v_m_blank v_m_queue' v_d_maps' v_d_tables' v_d_words' v_d_blank' v_d_queue' v_young' v_dropped' v_leaving' v_ren' ++ w_R cI cZ y0 y1 y2 y3 y4 y5 y6 y7 y8 y9 y10 y11 r_mem r_dsk r_fresh r_young r_dropped r_released r_owed r_counted r_inMemory r_onDisk r_thn r_moved)) cf ⟨by decide, by decide⟩ hK hN hA (c_V_create l D cI cZ v0 v1 v2 v3 v4 v5 v6 v7 v8 v9 v10 v11 v12 v13 v14 v15 F v_m_maps v_m_tables v_m_words v_m_blank v_m_queue v_d_maps v_d_tables v_d_words v_d_blank v_d_queue v_young v_dropped v_leaving v_ren v_m_maps' v_m_tables' v_m_words' v_m_queue' v_d_maps' v_d_tables' v_d_words' v_d_blank' v_d_queue' v_young' v_dropped' v_leaving' v_ren' (xs ((nI (5 * n)) + (nI 1)).toNatClampNeg) (xs ((nI (5 * n)) + (nI 2)).toNatClampNeg) (nI 0) r e1) k_L_13 ⟨rfl, rfl, by decide, by decide⟩ 1 rfl rfl rfl hl hP hD hS [0, 1, 2, 3, 4, 5, 6, 7, 8, 9, 10, 11, 12, 13, 14, 15] [16, 17, 18, 19, 20, 21, 22, 23, 24, 25, 26, 27] [12, 13, 14, 15, 16, 17, 18, 19, 20, 21, 22, 23, 24, 25, 26, 27, 0, 1, 2, 3, 4, 5, 6, 7, 8, 9, 10, 11] rfl rfl rfl (by decide) rfl rfl rfl rfl rfl (Nat.le_of_ble_eq_true rfl) rfl d_L_132 (fun H locs hP hD hS => ?_)
  refine lv_aload_n hx hb d_L_135 rfl (lv_at hl 3 rfl) ?_
  refine lv_aload_n hx hb d_L_136 rfl (lv_at hl 1 rfl) ?_
  refine lv_iload_n hx hb d_L_137 rfl (lv_at hl 0 rfl) ?_
  refine lv_iconst (v := (nI 1)) hx hb d_L_138 (by decide) ?_
  refine lv_iadd hx hb d_L_139 ?_
  refine va_sld hx hb hX hbl hbA hS (by rw [nI_add]; exact vp_in_nI (by omega) (by omega)) d_L_140 ?_
  refine lv_aload_n hx hb d_L_141 rfl (lv_at hl 1 rfl) ?_
  refine lv_iload_n hx hb d_L_142 rfl (lv_at hl 0 rfl) ?_
  refine lv_iconst (v := (nI 2)) hx hb d_L_143 (by decide) ?_
  refine lv_iadd hx hb d_L_144 ?_
  refine va_sld hx hb hX hbl hbA hS (by rw [nI_add]; exact vp_in_nI (by omega) (by omega)) d_L_145 ?_
  refine lv_aload_n hx hb d_L_146 rfl (lv_at hl 1 rfl) ?_
  refine lv_iload_n hx hb d_L_147 rfl (lv_at hl 0 rfl) ?_
  refine lv_iconst (v := (nI 3)) hx hb d_L_148 (by decide) ?_
  refine lv_iadd hx hb d_L_149 ?_
  refine va_sld hx hb hX hbl hbA hS (by rw [nI_add]; exact vp_in_nI (by omega) (by omega)) d_L_150 ?_
  refine lv_if_eq hx hb d_L_151 rfl (fun hc => ?_) (fun hc => absurd hz hc)
  refine lv_iconst (v := (nI 0)) hx hb d_L_158 (by decide) ?_
  refine wk_ViC (As := [.int (xs ((nI (5 * n)) + (nI 1)).toNatClampNeg), .int (xs ((nI (5 * n)) + (nI 2)).toNatClampNeg), .int (nI 0)]) (rest := [.int r]) (wc := w_R cI cZ y0 y1 y2 y3 y4 y5 y6 y7 y8 y9 y10 y11 r_mem r_dsk r_fresh r_young r_dropped r_released r_owed r_counted r_inMemory r_onDisk r_thn r_moved) (w1 := w_R cI cZ y0 y1 y2 y3 y4 y5 y6 y7 y8 y9 y10 y11 r_mem' r_dsk' r_fresh' r_young' r_dropped' r_released' r_owed' r_counted' r_inMemory' r_onDisk' r_thn' r_moved') (wr := w_V cI cZ v0 v1 v2 v3 v4 v5 v6 v7 v8 v9 v10 v11 v12 v13 v14 v15 v_m_maps' v_m_tables' v_m_words' v_m_blank v_m_queue' v_d_maps' v_d_tables' v_d_words' v_d_blank' v_d_queue' v_young' v_dropped' v_leaving' v_ren') (wz := (w_V cI cZ v0 v1 v2 v3 v4 v5 v6 v7 v8 v9 v10 v11 v12 v13 v14 v15 v_m_maps' v_m_tables' v_m_words' v_m_blank v_m_queue' v_d_maps' v_d_tables' v_d_words' v_d_blank' v_d_queue' v_young' v_dropped' v_leaving' v_ren' ++ w_R cI cZ y0 y1 y2 y3 y4 y5 y6 y7 y8 y9 y10 y11 r_mem' r_dsk' r_fresh' r_young' r_dropped' r_released' r_owed' r_counted' r_inMemory' r_onDisk' r_thn' r_moved')) cf ⟨by decide, by decide⟩ hK hN hA (c_R_create l D cI cZ y0 y1 y2 y3 y4 y5 y6 y7 y8 y9 y10 y11 F r_mem r_dsk r_fresh r_young r_dropped r_released r_owed r_counted r_inMemory r_onDisk r_thn r_moved r_young' r_dropped' r_mem' r_dsk' r_fresh' r_released' r_owed' r_counted' r_inMemory' r_onDisk' r_thn' r_moved' (xs ((nI (5 * n)) + (nI 1)).toNatClampNeg) (xs ((nI (5 * n)) + (nI 2)).toNatClampNeg) (nI 0) r e2) k_L_17 ⟨rfl, rfl, by decide, by decide⟩ 2 rfl rfl rfl hl hP hD hS [16, 17, 18, 19, 20, 21, 22, 23, 24, 25, 26, 27] [0, 1, 2, 3, 4, 5, 6, 7, 8, 9, 10, 11, 12, 13, 14, 15] [0, 1, 2, 3, 4, 5, 6, 7, 8, 9, 10, 11, 12, 13, 14, 15, 16, 17, 18, 19, 20, 21, 22, 23, 24, 25, 26, 27] rfl rfl rfl (by decide) rfl rfl rfl rfl rfl (Nat.le_of_ble_eq_true rfl) rfl d_L_159 (fun H locs hP hD hS => ?_)
  refine lv_icmp_eq hx hb d_L_162 rfl (fun _ => ?_) (fun hc => absurd rfl hc)
  exact kk v_m_maps' v_m_tables' v_m_words' v_m_blank v_m_queue' v_d_maps' v_d_tables' v_d_words' v_d_blank' v_d_queue' v_young' v_dropped' v_leaving' v_ren' r_mem' r_dsk' r_fresh' r_young' r_dropped' r_released' r_owed' r_counted' r_inMemory' r_onDisk' r_thn' r_moved' H locs ls hR hl hP hD hS
set_option maxHeartbeats 4000000 in
set_option maxRecDepth 100000 in
theorem w_L_create_1 {p : Program} {l : Launch} {e : Env} {s : State} {m : MethodId} {below : List Frame} {meth : Method} {c : Code} {b L : Nat} {xs : Nat → Int32} {D : va_G} {cI cZ : ClassId} (F : Nat) (Rl : RlT) (hst : St_create F Rl) (cx : lwC p s m meth c b L xs D cI cZ) (v0 v1 v2 v3 v4 v5 v6 v7 v8 v9 v10 v11 v12 v13 v14 v15 y0 y1 y2 y3 y4 y5 y6 y7 y8 y9 y10 y11 n : Nat) (hL : L ≤ 2560) (hk : 5 * n + 5 ≤ L) (hz : ¬ xs (nI (5 * n) + nI 3).toNatClampNeg = 0) (kk : LGo p l e s m below meth c b D cI cZ Rl v0 v1 v2 v3 v4 v5 v6 v7 v8 v9 v10 v11 v12 v13 v14 v15 y0 y1 y2 y3 y4 y5 y6 y7 y8 y9 y10 y11 589 (n + 1) (5 * n)) : LGo p l e s m below meth c b D cI cZ Rl v0 v1 v2 v3 v4 v5 v6 v7 v8 v9 v10 v11 v12 v13 v14 v15 y0 y1 y2 y3 y4 y5 y6 y7 y8 y9 y10 y11 108 n (5 * n) := by
  obtain ⟨cf, hr, hlk, hK, hN, hX, hbl⟩ := cx
  have hx := cf.1
  have hb := cf.2.1
  have hown := cf.2.2.2.1
  have hA : ∀ q : Nat, s.heap.size ≤ q → (fun q => s.heap.size ≤ q) q := fun q h => h
  have hbA : ¬ (fun q => s.heap.size ≤ q) b := Nat.not_le.mpr hbl
  intro v_m_maps v_m_tables v_m_words v_m_blank v_m_queue v_d_maps v_d_tables v_d_words v_d_blank v_d_queue v_young v_dropped v_leaving v_ren r_mem r_dsk r_fresh r_young r_dropped r_released r_owed r_counted r_inMemory r_onDisk r_thn r_moved H locs ls hRl hl hP hD hS
  refine lv_aload_n hx hb d_L_108 rfl (lv_at hl 2 rfl) ?_
  refine lv_aload_n hx hb d_L_109 rfl (lv_at hl 1 rfl) ?_
  refine lv_iload_n hx hb d_L_110 rfl (lv_at hl 0 rfl) ?_
  refine lv_iconst (v := (nI 1)) hx hb d_L_111 (by decide) ?_
  refine lv_iadd hx hb d_L_112 ?_
  refine va_sld hx hb hX hbl hbA hS (by rw [nI_add]; exact vp_in_nI (by omega) (by omega)) d_L_113 ?_
  refine lv_aload_n hx hb d_L_114 rfl (lv_at hl 1 rfl) ?_
  refine lv_iload_n hx hb d_L_115 rfl (lv_at hl 0 rfl) ?_
  refine lv_iconst (v := (nI 2)) hx hb d_L_116 (by decide) ?_
  refine lv_iadd hx hb d_L_117 ?_
  refine va_sld hx hb hX hbl hbA hS (by rw [nI_add]; exact vp_in_nI (by omega) (by omega)) d_L_118 ?_
  refine lv_aload_n hx hb d_L_119 rfl (lv_at hl 1 rfl) ?_
  refine lv_iload_n hx hb d_L_120 rfl (lv_at hl 0 rfl) ?_
  refine lv_iconst (v := (nI 3)) hx hb d_L_121 (by decide) ?_
  refine lv_iadd hx hb d_L_122 ?_
  refine va_sld hx hb hX hbl hbA hS (by rw [nI_add]; exact vp_in_nI (by omega) (by omega)) d_L_123 ?_
  refine lv_if_eq hx hb d_L_124 rfl (fun hc => absurd hc hz) (fun hc => ?_)
  refine lv_iconst (v := (nI 1)) hx hb d_L_127 (by decide) ?_
  refine lv_goto hx hb d_L_128 rfl ?_
  obtain ⟨r, v_m_maps', v_m_tables', v_m_words', v_m_queue', v_d_maps', v_d_tables', v_d_words', v_d_blank', v_d_queue', v_young', v_dropped', v_leaving', v_ren', r_young', r_dropped', r_mem', r_dsk', r_fresh', r_released', r_owed', r_counted', r_inMemory', r_onDisk', r_thn', r_moved', e1, e2, hR⟩ := hst n v_m_maps v_m_tables v_m_words v_m_blank v_m_queue v_d_maps v_d_tables v_d_words v_d_blank v_d_queue v_young v_dropped v_leaving v_ren r_mem r_dsk r_fresh r_young r_dropped r_released r_owed r_counted r_inMemory r_onDisk r_thn r_moved (xs ((nI (5 * n)) + (nI 1)).toNatClampNeg) (xs ((nI (5 * n)) + (nI 2)).toNatClampNeg) (nI 1) (by omega) hRl (Or.inr rfl)
  refine wk_ViC (As := [.int (xs ((nI (5 * n)) + (nI 1)).toNatClampNeg), .int (xs ((nI (5 * n)) + (nI 2)).toNatClampNeg), .int (nI 1)]) (rest := []) (wc := w_V cI cZ v0 v1 v2 v3 v4 v5 v6 v7 v8 v9 v10 v11 v12 v13 v14 v15 v_m_maps v_m_tables v_m_words v_m_blank v_m_queue v_d_maps v_d_tables v_d_words v_d_blank v_d_queue v_young v_dropped v_leaving v_ren) (w1 := w_V cI cZ v0 v1 v2 v3 v4 v5 v6 v7 v8 v9 v10 v11 v12 v13 v14 v15 v_m_maps' v_m_tables' v_m_words' v_m_blank v_m_queue' v_d_maps' v_d_tables' v_d_words' v_d_blank' v_d_queue' v_young' v_dropped' v_leaving' v_ren') (wr := w_R cI cZ y0 y1 y2 y3 y4 y5 y6 y7 y8 y9 y10 y11 r_mem r_dsk r_fresh r_young r_dropped r_released r_owed r_counted r_inMemory r_onDisk r_thn r_moved) (wz := (w_V cI cZ v0 v1 v2 v3 v4 v5 v6 v7 v8 v9 v10 v11 v12 v13 v14 v15 v_m_maps' v_m_tables' v_m_words' v_m_blank v_m_queue' v_d_maps' v_d_tables' v_d_words' v_d_blank' v_d_queue' v_young' v_dropped' v_leaving' v_ren' ++ w_R cI cZ y0 y1 y2 y3 y4 y5 y6 y7 y8 y9 y10 y11 r_mem r_dsk r_fresh r_young r_dropped r_released r_owed r_counted r_inMemory r_onDisk r_thn r_moved)) cf ⟨by decide, by decide⟩ hK hN hA (c_V_create l D cI cZ v0 v1 v2 v3 v4 v5 v6 v7 v8 v9 v10 v11 v12 v13 v14 v15 F v_m_maps v_m_tables v_m_words v_m_blank v_m_queue v_d_maps v_d_tables v_d_words v_d_blank v_d_queue v_young v_dropped v_leaving v_ren v_m_maps' v_m_tables' v_m_words' v_m_queue' v_d_maps' v_d_tables' v_d_words' v_d_blank' v_d_queue' v_young' v_dropped' v_leaving' v_ren' (xs ((nI (5 * n)) + (nI 1)).toNatClampNeg) (xs ((nI (5 * n)) + (nI 2)).toNatClampNeg) (nI 1) r e1) k_L_13 ⟨rfl, rfl, by decide, by decide⟩ 1 rfl rfl rfl hl hP hD hS [0, 1, 2, 3, 4, 5, 6, 7, 8, 9, 10, 11, 12, 13, 14, 15] [16, 17, 18, 19, 20, 21, 22, 23, 24, 25, 26, 27] [12, 13, 14, 15, 16, 17, 18, 19, 20, 21, 22, 23, 24, 25, 26, 27, 0, 1, 2, 3, 4, 5, 6, 7, 8, 9, 10, 11] rfl rfl rfl (by decide) rfl rfl rfl rfl rfl (Nat.le_of_ble_eq_true rfl) rfl d_L_132 (fun H locs hP hD hS => ?_)
  refine lv_aload_n hx hb d_L_135 rfl (lv_at hl 3 rfl) ?_
  refine lv_aload_n hx hb d_L_136 rfl (lv_at hl 1 rfl) ?_
  refine lv_iload_n hx hb d_L_137 rfl (lv_at hl 0 rfl) ?_
  refine lv_iconst (v := (nI 1)) hx hb d_L_138 (by decide) ?_
  refine lv_iadd hx hb d_L_139 ?_
  refine va_sld hx hb hX hbl hbA hS (by rw [nI_add]; exact vp_in_nI (by omega) (by omega)) d_L_140 ?_
  refine lv_aload_n hx hb d_L_141 rfl (lv_at hl 1 rfl) ?_
  refine lv_iload_n hx hb d_L_142 rfl (lv_at hl 0 rfl) ?_
  refine lv_iconst (v := (nI 2)) hx hb d_L_143 (by decide) ?_
  refine lv_iadd hx hb d_L_144 ?_
  refine va_sld hx hb hX hbl hbA hS (by rw [nI_add]; exact vp_in_nI (by omega) (by omega)) d_L_145 ?_
  refine lv_aload_n hx hb d_L_146 rfl (lv_at hl 1 rfl) ?_
  refine lv_iload_n hx hb d_L_147 rfl (lv_at hl 0 rfl) ?_
  refine lv_iconst (v := (nI 3)) hx hb d_L_148 (by decide) ?_
  refine lv_iadd hx hb d_L_149 ?_
  refine va_sld hx hb hX hbl hbA hS (by rw [nI_add]; exact vp_in_nI (by omega) (by omega)) d_L_150 ?_
  refine lv_if_eq hx hb d_L_151 rfl (fun hc => absurd hc hz) (fun hc => ?_)
  refine lv_iconst (v := (nI 1)) hx hb d_L_154 (by decide) ?_
  refine lv_goto hx hb d_L_155 rfl ?_
  refine wk_ViC (As := [.int (xs ((nI (5 * n)) + (nI 1)).toNatClampNeg), .int (xs ((nI (5 * n)) + (nI 2)).toNatClampNeg), .int (nI 1)]) (rest := [.int r]) (wc := w_R cI cZ y0 y1 y2 y3 y4 y5 y6 y7 y8 y9 y10 y11 r_mem r_dsk r_fresh r_young r_dropped r_released r_owed r_counted r_inMemory r_onDisk r_thn r_moved) (w1 := w_R cI cZ y0 y1 y2 y3 y4 y5 y6 y7 y8 y9 y10 y11 r_mem' r_dsk' r_fresh' r_young' r_dropped' r_released' r_owed' r_counted' r_inMemory' r_onDisk' r_thn' r_moved') (wr := w_V cI cZ v0 v1 v2 v3 v4 v5 v6 v7 v8 v9 v10 v11 v12 v13 v14 v15 v_m_maps' v_m_tables' v_m_words' v_m_blank v_m_queue' v_d_maps' v_d_tables' v_d_words' v_d_blank' v_d_queue' v_young' v_dropped' v_leaving' v_ren') (wz := (w_V cI cZ v0 v1 v2 v3 v4 v5 v6 v7 v8 v9 v10 v11 v12 v13 v14 v15 v_m_maps' v_m_tables' v_m_words' v_m_blank v_m_queue' v_d_maps' v_d_tables' v_d_words' v_d_blank' v_d_queue' v_young' v_dropped' v_leaving' v_ren' ++ w_R cI cZ y0 y1 y2 y3 y4 y5 y6 y7 y8 y9 y10 y11 r_mem' r_dsk' r_fresh' r_young' r_dropped' r_released' r_owed' r_counted' r_inMemory' r_onDisk' r_thn' r_moved')) cf ⟨by decide, by decide⟩ hK hN hA (c_R_create l D cI cZ y0 y1 y2 y3 y4 y5 y6 y7 y8 y9 y10 y11 F r_mem r_dsk r_fresh r_young r_dropped r_released r_owed r_counted r_inMemory r_onDisk r_thn r_moved r_young' r_dropped' r_mem' r_dsk' r_fresh' r_released' r_owed' r_counted' r_inMemory' r_onDisk' r_thn' r_moved' (xs ((nI (5 * n)) + (nI 1)).toNatClampNeg) (xs ((nI (5 * n)) + (nI 2)).toNatClampNeg) (nI 1) r e2) k_L_17 ⟨rfl, rfl, by decide, by decide⟩ 2 rfl rfl rfl hl hP hD hS [16, 17, 18, 19, 20, 21, 22, 23, 24, 25, 26, 27] [0, 1, 2, 3, 4, 5, 6, 7, 8, 9, 10, 11, 12, 13, 14, 15] [0, 1, 2, 3, 4, 5, 6, 7, 8, 9, 10, 11, 12, 13, 14, 15, 16, 17, 18, 19, 20, 21, 22, 23, 24, 25, 26, 27] rfl rfl rfl (by decide) rfl rfl rfl rfl rfl (Nat.le_of_ble_eq_true rfl) rfl d_L_159 (fun H locs hP hD hS => ?_)
  refine lv_icmp_eq hx hb d_L_162 rfl (fun _ => ?_) (fun hc => absurd rfl hc)
  exact kk v_m_maps' v_m_tables' v_m_words' v_m_blank v_m_queue' v_d_maps' v_d_tables' v_d_words' v_d_blank' v_d_queue' v_young' v_dropped' v_leaving' v_ren' r_mem' r_dsk' r_fresh' r_young' r_dropped' r_released' r_owed' r_counted' r_inMemory' r_onDisk' r_thn' r_moved' H locs ls hR hl hP hD hS
set_option maxHeartbeats 4000000 in
set_option maxRecDepth 100000 in
theorem w_L_link {p : Program} {l : Launch} {e : Env} {s : State} {m : MethodId} {below : List Frame} {meth : Method} {c : Code} {b L : Nat} {xs : Nat → Int32} {D : va_G} {cI cZ : ClassId} (F : Nat) (Rl : RlT) (hst : St_link F Rl) (cx : lwC p s m meth c b L xs D cI cZ) (v0 v1 v2 v3 v4 v5 v6 v7 v8 v9 v10 v11 v12 v13 v14 v15 y0 y1 y2 y3 y4 y5 y6 y7 y8 y9 y10 y11 n : Nat) (hL : L ≤ 2560) (hk : 5 * n + 5 ≤ L) (kk : LGo p l e s m below meth c b D cI cZ Rl v0 v1 v2 v3 v4 v5 v6 v7 v8 v9 v10 v11 v12 v13 v14 v15 y0 y1 y2 y3 y4 y5 y6 y7 y8 y9 y10 y11 589 (n + 1) (5 * n)) : LGo p l e s m below meth c b D cI cZ Rl v0 v1 v2 v3 v4 v5 v6 v7 v8 v9 v10 v11 v12 v13 v14 v15 y0 y1 y2 y3 y4 y5 y6 y7 y8 y9 y10 y11 167 n (5 * n) := by
  obtain ⟨cf, hr, hlk, hK, hN, hX, hbl⟩ := cx
  have hx := cf.1
  have hb := cf.2.1
  have hown := cf.2.2.2.1
  have hA : ∀ q : Nat, s.heap.size ≤ q → (fun q => s.heap.size ≤ q) q := fun q h => h
  have hbA : ¬ (fun q => s.heap.size ≤ q) b := Nat.not_le.mpr hbl
  intro v_m_maps v_m_tables v_m_words v_m_blank v_m_queue v_d_maps v_d_tables v_d_words v_d_blank v_d_queue v_young v_dropped v_leaving v_ren r_mem r_dsk r_fresh r_young r_dropped r_released r_owed r_counted r_inMemory r_onDisk r_thn r_moved H locs ls hRl hl hP hD hS
  refine lv_aload_n hx hb d_L_167 rfl (lv_at hl 2 rfl) ?_
  refine lv_aload_n hx hb d_L_168 rfl (lv_at hl 1 rfl) ?_
  refine lv_iload_n hx hb d_L_169 rfl (lv_at hl 0 rfl) ?_
  refine lv_iconst (v := (nI 1)) hx hb d_L_170 (by decide) ?_
  refine lv_iadd hx hb d_L_171 ?_
  refine va_sld hx hb hX hbl hbA hS (by rw [nI_add]; exact vp_in_nI (by omega) (by omega)) d_L_172 ?_
  refine lv_aload_n hx hb d_L_173 rfl (lv_at hl 1 rfl) ?_
  refine lv_iload_n hx hb d_L_174 rfl (lv_at hl 0 rfl) ?_
  refine lv_iconst (v := (nI 2)) hx hb d_L_175 (by decide) ?_
  refine lv_iadd hx hb d_L_176 ?_
  refine va_sld hx hb hX hbl hbA hS (by rw [nI_add]; exact vp_in_nI (by omega) (by omega)) d_L_177 ?_
  refine lv_aload_n hx hb d_L_178 rfl (lv_at hl 1 rfl) ?_
  refine lv_iload_n hx hb d_L_179 rfl (lv_at hl 0 rfl) ?_
  refine lv_iconst (v := (nI 3)) hx hb d_L_180 (by decide) ?_
  refine lv_iadd hx hb d_L_181 ?_
  refine va_sld hx hb hX hbl hbA hS (by rw [nI_add]; exact vp_in_nI (by omega) (by omega)) d_L_182 ?_
  obtain ⟨r, v_m_maps', v_m_tables', v_m_words', v_m_queue', v_d_maps', v_d_tables', v_d_words', v_d_blank', v_d_queue', v_young', v_dropped', v_leaving', v_ren', r_young', r_dropped', r_mem', r_dsk', r_fresh', r_released', r_owed', r_counted', r_inMemory', r_onDisk', r_thn', r_moved', e1, e2, hR⟩ := hst n v_m_maps v_m_tables v_m_words v_m_blank v_m_queue v_d_maps v_d_tables v_d_words v_d_blank v_d_queue v_young v_dropped v_leaving v_ren r_mem r_dsk r_fresh r_young r_dropped r_released r_owed r_counted r_inMemory r_onDisk r_thn r_moved (xs ((nI (5 * n)) + (nI 1)).toNatClampNeg) (xs ((nI (5 * n)) + (nI 2)).toNatClampNeg) (xs ((nI (5 * n)) + (nI 3)).toNatClampNeg) (by omega) hRl
  refine wk_ViC (As := [.int (xs ((nI (5 * n)) + (nI 1)).toNatClampNeg), .int (xs ((nI (5 * n)) + (nI 2)).toNatClampNeg), .int (xs ((nI (5 * n)) + (nI 3)).toNatClampNeg)]) (rest := []) (wc := w_V cI cZ v0 v1 v2 v3 v4 v5 v6 v7 v8 v9 v10 v11 v12 v13 v14 v15 v_m_maps v_m_tables v_m_words v_m_blank v_m_queue v_d_maps v_d_tables v_d_words v_d_blank v_d_queue v_young v_dropped v_leaving v_ren) (w1 := w_V cI cZ v0 v1 v2 v3 v4 v5 v6 v7 v8 v9 v10 v11 v12 v13 v14 v15 v_m_maps' v_m_tables' v_m_words' v_m_blank v_m_queue' v_d_maps' v_d_tables' v_d_words' v_d_blank' v_d_queue' v_young' v_dropped' v_leaving' v_ren') (wr := w_R cI cZ y0 y1 y2 y3 y4 y5 y6 y7 y8 y9 y10 y11 r_mem r_dsk r_fresh r_young r_dropped r_released r_owed r_counted r_inMemory r_onDisk r_thn r_moved) (wz := (w_V cI cZ v0 v1 v2 v3 v4 v5 v6 v7 v8 v9 v10 v11 v12 v13 v14 v15 v_m_maps' v_m_tables' v_m_words' v_m_blank v_m_queue' v_d_maps' v_d_tables' v_d_words' v_d_blank' v_d_queue' v_young' v_dropped' v_leaving' v_ren' ++ w_R cI cZ y0 y1 y2 y3 y4 y5 y6 y7 y8 y9 y10 y11 r_mem r_dsk r_fresh r_young r_dropped r_released r_owed r_counted r_inMemory r_onDisk r_thn r_moved)) cf ⟨by decide, by decide⟩ hK hN hA (c_V_link l D cI cZ v0 v1 v2 v3 v4 v5 v6 v7 v8 v9 v10 v11 v12 v13 v14 v15 F v_m_maps v_m_tables v_m_words v_m_blank v_m_queue v_d_maps v_d_tables v_d_words v_d_blank v_d_queue v_young v_dropped v_leaving v_ren v_m_maps' v_m_tables' v_m_words' v_m_queue' v_d_maps' v_d_tables' v_d_words' v_d_blank' v_d_queue' v_young' v_dropped' v_leaving' v_ren' (xs ((nI (5 * n)) + (nI 1)).toNatClampNeg) (xs ((nI (5 * n)) + (nI 2)).toNatClampNeg) (xs ((nI (5 * n)) + (nI 3)).toNatClampNeg) r e1) k_L_18 ⟨rfl, rfl, by decide, by decide⟩ 1 rfl rfl rfl hl hP hD hS [0, 1, 2, 3, 4, 5, 6, 7, 8, 9, 10, 11, 12, 13, 14, 15] [16, 17, 18, 19, 20, 21, 22, 23, 24, 25, 26, 27] [12, 13, 14, 15, 16, 17, 18, 19, 20, 21, 22, 23, 24, 25, 26, 27, 0, 1, 2, 3, 4, 5, 6, 7, 8, 9, 10, 11] rfl rfl rfl (by decide) rfl rfl rfl rfl rfl (Nat.le_of_ble_eq_true rfl) rfl d_L_183 (fun H locs hP hD hS => ?_)
  refine lv_aload_n hx hb d_L_186 rfl (lv_at hl 3 rfl) ?_
  refine lv_aload_n hx hb d_L_187 rfl (lv_at hl 1 rfl) ?_
  refine lv_iload_n hx hb d_L_188 rfl (lv_at hl 0 rfl) ?_
  refine lv_iconst (v := (nI 1)) hx hb d_L_189 (by decide) ?_
  refine lv_iadd hx hb d_L_190 ?_
  refine va_sld hx hb hX hbl hbA hS (by rw [nI_add]; exact vp_in_nI (by omega) (by omega)) d_L_191 ?_
  refine lv_aload_n hx hb d_L_192 rfl (lv_at hl 1 rfl) ?_
  refine lv_iload_n hx hb d_L_193 rfl (lv_at hl 0 rfl) ?_
  refine lv_iconst (v := (nI 2)) hx hb d_L_194 (by decide) ?_
  refine lv_iadd hx hb d_L_195 ?_
  refine va_sld hx hb hX hbl hbA hS (by rw [nI_add]; exact vp_in_nI (by omega) (by omega)) d_L_196 ?_
  refine lv_aload_n hx hb d_L_197 rfl (lv_at hl 1 rfl) ?_
  refine lv_iload_n hx hb d_L_198 rfl (lv_at hl 0 rfl) ?_
  refine lv_iconst (v := (nI 3)) hx hb d_L_199 (by decide) ?_
  refine lv_iadd hx hb d_L_200 ?_
  refine va_sld hx hb hX hbl hbA hS (by rw [nI_add]; exact vp_in_nI (by omega) (by omega)) d_L_201 ?_
  refine wk_ViC (As := [.int (xs ((nI (5 * n)) + (nI 1)).toNatClampNeg), .int (xs ((nI (5 * n)) + (nI 2)).toNatClampNeg), .int (xs ((nI (5 * n)) + (nI 3)).toNatClampNeg)]) (rest := [.int r]) (wc := w_R cI cZ y0 y1 y2 y3 y4 y5 y6 y7 y8 y9 y10 y11 r_mem r_dsk r_fresh r_young r_dropped r_released r_owed r_counted r_inMemory r_onDisk r_thn r_moved) (w1 := w_R cI cZ y0 y1 y2 y3 y4 y5 y6 y7 y8 y9 y10 y11 r_mem' r_dsk' r_fresh' r_young' r_dropped' r_released' r_owed' r_counted' r_inMemory' r_onDisk' r_thn' r_moved') (wr := w_V cI cZ v0 v1 v2 v3 v4 v5 v6 v7 v8 v9 v10 v11 v12 v13 v14 v15 v_m_maps' v_m_tables' v_m_words' v_m_blank v_m_queue' v_d_maps' v_d_tables' v_d_words' v_d_blank' v_d_queue' v_young' v_dropped' v_leaving' v_ren') (wz := (w_V cI cZ v0 v1 v2 v3 v4 v5 v6 v7 v8 v9 v10 v11 v12 v13 v14 v15 v_m_maps' v_m_tables' v_m_words' v_m_blank v_m_queue' v_d_maps' v_d_tables' v_d_words' v_d_blank' v_d_queue' v_young' v_dropped' v_leaving' v_ren' ++ w_R cI cZ y0 y1 y2 y3 y4 y5 y6 y7 y8 y9 y10 y11 r_mem' r_dsk' r_fresh' r_young' r_dropped' r_released' r_owed' r_counted' r_inMemory' r_onDisk' r_thn' r_moved')) cf ⟨by decide, by decide⟩ hK hN hA (c_R_link l D cI cZ y0 y1 y2 y3 y4 y5 y6 y7 y8 y9 y10 y11 F r_mem r_dsk r_fresh r_young r_dropped r_released r_owed r_counted r_inMemory r_onDisk r_thn r_moved r_young' r_dropped' r_mem' r_dsk' r_fresh' r_released' r_owed' r_counted' r_inMemory' r_onDisk' r_thn' r_moved' (xs ((nI (5 * n)) + (nI 1)).toNatClampNeg) (xs ((nI (5 * n)) + (nI 2)).toNatClampNeg) (xs ((nI (5 * n)) + (nI 3)).toNatClampNeg) r e2) k_L_22 ⟨rfl, rfl, by decide, by decide⟩ 2 rfl rfl rfl hl hP hD hS [16, 17, 18, 19, 20, 21, 22, 23, 24, 25, 26, 27] [0, 1, 2, 3, 4, 5, 6, 7, 8, 9, 10, 11, 12, 13, 14, 15] [0, 1, 2, 3, 4, 5, 6, 7, 8, 9, 10, 11, 12, 13, 14, 15, 16, 17, 18, 19, 20, 21, 22, 23, 24, 25, 26, 27] rfl rfl rfl (by decide) rfl rfl rfl rfl rfl (Nat.le_of_ble_eq_true rfl) rfl d_L_202 (fun H locs hP hD hS => ?_)
  refine lv_icmp_eq hx hb d_L_205 rfl (fun _ => ?_) (fun hc => absurd rfl hc)
  exact kk v_m_maps' v_m_tables' v_m_words' v_m_blank v_m_queue' v_d_maps' v_d_tables' v_d_words' v_d_blank' v_d_queue' v_young' v_dropped' v_leaving' v_ren' r_mem' r_dsk' r_fresh' r_young' r_dropped' r_released' r_owed' r_counted' r_inMemory' r_onDisk' r_thn' r_moved' H locs ls hR hl hP hD hS
set_option maxHeartbeats 4000000 in
set_option maxRecDepth 100000 in
theorem w_L_remove {p : Program} {l : Launch} {e : Env} {s : State} {m : MethodId} {below : List Frame} {meth : Method} {c : Code} {b L : Nat} {xs : Nat → Int32} {D : va_G} {cI cZ : ClassId} (F : Nat) (Rl : RlT) (hst : St_remove F Rl) (cx : lwC p s m meth c b L xs D cI cZ) (v0 v1 v2 v3 v4 v5 v6 v7 v8 v9 v10 v11 v12 v13 v14 v15 y0 y1 y2 y3 y4 y5 y6 y7 y8 y9 y10 y11 n : Nat) (hL : L ≤ 2560) (hk : 5 * n + 5 ≤ L) (kk : LGo p l e s m below meth c b D cI cZ Rl v0 v1 v2 v3 v4 v5 v6 v7 v8 v9 v10 v11 v12 v13 v14 v15 y0 y1 y2 y3 y4 y5 y6 y7 y8 y9 y10 y11 589 (n + 1) (5 * n)) : LGo p l e s m below meth c b D cI cZ Rl v0 v1 v2 v3 v4 v5 v6 v7 v8 v9 v10 v11 v12 v13 v14 v15 y0 y1 y2 y3 y4 y5 y6 y7 y8 y9 y10 y11 210 n (5 * n) := by
  obtain ⟨cf, hr, hlk, hK, hN, hX, hbl⟩ := cx
  have hx := cf.1
  have hb := cf.2.1
  have hown := cf.2.2.2.1
  have hA : ∀ q : Nat, s.heap.size ≤ q → (fun q => s.heap.size ≤ q) q := fun q h => h
  have hbA : ¬ (fun q => s.heap.size ≤ q) b := Nat.not_le.mpr hbl
  intro v_m_maps v_m_tables v_m_words v_m_blank v_m_queue v_d_maps v_d_tables v_d_words v_d_blank v_d_queue v_young v_dropped v_leaving v_ren r_mem r_dsk r_fresh r_young r_dropped r_released r_owed r_counted r_inMemory r_onDisk r_thn r_moved H locs ls hRl hl hP hD hS
  refine lv_aload_n hx hb d_L_210 rfl (lv_at hl 2 rfl) ?_
  refine lv_aload_n hx hb d_L_211 rfl (lv_at hl 1 rfl) ?_
  refine lv_iload_n hx hb d_L_212 rfl (lv_at hl 0 rfl) ?_
  refine lv_iconst (v := (nI 1)) hx hb d_L_213 (by decide) ?_
  refine lv_iadd hx hb d_L_214 ?_
  refine va_sld hx hb hX hbl hbA hS (by rw [nI_add]; exact vp_in_nI (by omega) (by omega)) d_L_215 ?_
  refine lv_aload_n hx hb d_L_216 rfl (lv_at hl 1 rfl) ?_
  refine lv_iload_n hx hb d_L_217 rfl (lv_at hl 0 rfl) ?_
  refine lv_iconst (v := (nI 2)) hx hb d_L_218 (by decide) ?_
  refine lv_iadd hx hb d_L_219 ?_
  refine va_sld hx hb hX hbl hbA hS (by rw [nI_add]; exact vp_in_nI (by omega) (by omega)) d_L_220 ?_
  obtain ⟨r, v_m_maps', v_m_tables', v_m_words', v_m_queue', v_young', v_dropped', v_leaving', r_young', r_dropped', r_mem', r_released', r_owed', r_counted', r_inMemory', e1, e2, hR⟩ := hst n v_m_maps v_m_tables v_m_words v_m_blank v_m_queue v_d_maps v_d_tables v_d_words v_d_blank v_d_queue v_young v_dropped v_leaving v_ren r_mem r_dsk r_fresh r_young r_dropped r_released r_owed r_counted r_inMemory r_onDisk r_thn r_moved (xs ((nI (5 * n)) + (nI 1)).toNatClampNeg) (xs ((nI (5 * n)) + (nI 2)).toNatClampNeg) (by omega) hRl
  refine wk_ViC (As := [.int (xs ((nI (5 * n)) + (nI 1)).toNatClampNeg), .int (xs ((nI (5 * n)) + (nI 2)).toNatClampNeg)]) (rest := []) (wc := w_V cI cZ v0 v1 v2 v3 v4 v5 v6 v7 v8 v9 v10 v11 v12 v13 v14 v15 v_m_maps v_m_tables v_m_words v_m_blank v_m_queue v_d_maps v_d_tables v_d_words v_d_blank v_d_queue v_young v_dropped v_leaving v_ren) (w1 := w_V cI cZ v0 v1 v2 v3 v4 v5 v6 v7 v8 v9 v10 v11 v12 v13 v14 v15 v_m_maps' v_m_tables' v_m_words' v_m_blank v_m_queue' v_d_maps v_d_tables v_d_words v_d_blank v_d_queue v_young' v_dropped' v_leaving' v_ren) (wr := w_R cI cZ y0 y1 y2 y3 y4 y5 y6 y7 y8 y9 y10 y11 r_mem r_dsk r_fresh r_young r_dropped r_released r_owed r_counted r_inMemory r_onDisk r_thn r_moved) (wz := (w_V cI cZ v0 v1 v2 v3 v4 v5 v6 v7 v8 v9 v10 v11 v12 v13 v14 v15 v_m_maps' v_m_tables' v_m_words' v_m_blank v_m_queue' v_d_maps v_d_tables v_d_words v_d_blank v_d_queue v_young' v_dropped' v_leaving' v_ren ++ w_R cI cZ y0 y1 y2 y3 y4 y5 y6 y7 y8 y9 y10 y11 r_mem r_dsk r_fresh r_young r_dropped r_released r_owed r_counted r_inMemory r_onDisk r_thn r_moved)) cf ⟨by decide, by decide⟩ hK hN hA (c_V_remove l D cI cZ v0 v1 v2 v3 v4 v5 v6 v7 v8 v9 v10 v11 v12 v13 v14 v15 F v_m_maps v_m_tables v_m_words v_m_blank v_m_queue v_d_maps v_d_tables v_d_words v_d_blank v_d_queue v_young v_dropped v_leaving v_ren v_m_maps' v_m_tables' v_m_words' v_m_queue' v_young' v_dropped' v_leaving' (xs ((nI (5 * n)) + (nI 1)).toNatClampNeg) (xs ((nI (5 * n)) + (nI 2)).toNatClampNeg) r e1) k_L_23 ⟨rfl, rfl, by decide, by decide⟩ 1 rfl rfl rfl hl hP hD hS [0, 1, 2, 3, 4, 5, 6, 7, 8, 9, 10, 11, 12, 13, 14, 15] [16, 17, 18, 19, 20, 21, 22, 23, 24, 25, 26, 27] [12, 13, 14, 15, 16, 17, 18, 19, 20, 21, 22, 23, 24, 25, 26, 27, 0, 1, 2, 3, 4, 5, 6, 7, 8, 9, 10, 11] rfl rfl rfl (by decide) rfl rfl rfl rfl rfl (Nat.le_of_ble_eq_true rfl) rfl d_L_221 (fun H locs hP hD hS => ?_)
  refine lv_aload_n hx hb d_L_224 rfl (lv_at hl 3 rfl) ?_
  refine lv_aload_n hx hb d_L_225 rfl (lv_at hl 1 rfl) ?_
  refine lv_iload_n hx hb d_L_226 rfl (lv_at hl 0 rfl) ?_
  refine lv_iconst (v := (nI 1)) hx hb d_L_227 (by decide) ?_
  refine lv_iadd hx hb d_L_228 ?_
  refine va_sld hx hb hX hbl hbA hS (by rw [nI_add]; exact vp_in_nI (by omega) (by omega)) d_L_229 ?_
  refine lv_aload_n hx hb d_L_230 rfl (lv_at hl 1 rfl) ?_
  refine lv_iload_n hx hb d_L_231 rfl (lv_at hl 0 rfl) ?_
  refine lv_iconst (v := (nI 2)) hx hb d_L_232 (by decide) ?_
  refine lv_iadd hx hb d_L_233 ?_
  refine va_sld hx hb hX hbl hbA hS (by rw [nI_add]; exact vp_in_nI (by omega) (by omega)) d_L_234 ?_
  refine wk_ViC (As := [.int (xs ((nI (5 * n)) + (nI 1)).toNatClampNeg), .int (xs ((nI (5 * n)) + (nI 2)).toNatClampNeg)]) (rest := [.int r]) (wc := w_R cI cZ y0 y1 y2 y3 y4 y5 y6 y7 y8 y9 y10 y11 r_mem r_dsk r_fresh r_young r_dropped r_released r_owed r_counted r_inMemory r_onDisk r_thn r_moved) (w1 := w_R cI cZ y0 y1 y2 y3 y4 y5 y6 y7 y8 y9 y10 y11 r_mem' r_dsk r_fresh r_young' r_dropped' r_released' r_owed' r_counted' r_inMemory' r_onDisk r_thn r_moved) (wr := w_V cI cZ v0 v1 v2 v3 v4 v5 v6 v7 v8 v9 v10 v11 v12 v13 v14 v15 v_m_maps' v_m_tables' v_m_words' v_m_blank v_m_queue' v_d_maps v_d_tables v_d_words v_d_blank v_d_queue v_young' v_dropped' v_leaving' v_ren) (wz := (w_V cI cZ v0 v1 v2 v3 v4 v5 v6 v7 v8 v9 v10 v11 v12 v13 v14 v15 v_m_maps' v_m_tables' v_m_words' v_m_blank v_m_queue' v_d_maps v_d_tables v_d_words v_d_blank v_d_queue v_young' v_dropped' v_leaving' v_ren ++ w_R cI cZ y0 y1 y2 y3 y4 y5 y6 y7 y8 y9 y10 y11 r_mem' r_dsk r_fresh r_young' r_dropped' r_released' r_owed' r_counted' r_inMemory' r_onDisk r_thn r_moved)) cf ⟨by decide, by decide⟩ hK hN hA (c_R_remove l D cI cZ y0 y1 y2 y3 y4 y5 y6 y7 y8 y9 y10 y11 F r_mem r_dsk r_fresh r_young r_dropped r_released r_owed r_counted r_inMemory r_onDisk r_thn r_moved r_young' r_dropped' r_mem' r_released' r_owed' r_counted' r_inMemory' (xs ((nI (5 * n)) + (nI 1)).toNatClampNeg) (xs ((nI (5 * n)) + (nI 2)).toNatClampNeg) r e2) k_L_27 ⟨rfl, rfl, by decide, by decide⟩ 2 rfl rfl rfl hl hP hD hS [16, 17, 18, 19, 20, 21, 22, 23, 24, 25, 26, 27] [0, 1, 2, 3, 4, 5, 6, 7, 8, 9, 10, 11, 12, 13, 14, 15] [0, 1, 2, 3, 4, 5, 6, 7, 8, 9, 10, 11, 12, 13, 14, 15, 16, 17, 18, 19, 20, 21, 22, 23, 24, 25, 26, 27] rfl rfl rfl (by decide) rfl rfl rfl rfl rfl (Nat.le_of_ble_eq_true rfl) rfl d_L_235 (fun H locs hP hD hS => ?_)
  refine lv_icmp_eq hx hb d_L_238 rfl (fun _ => ?_) (fun hc => absurd rfl hc)
  exact kk v_m_maps' v_m_tables' v_m_words' v_m_blank v_m_queue' v_d_maps v_d_tables v_d_words v_d_blank v_d_queue v_young' v_dropped' v_leaving' v_ren r_mem' r_dsk r_fresh r_young' r_dropped' r_released' r_owed' r_counted' r_inMemory' r_onDisk r_thn r_moved H locs ls hR hl hP hD hS
set_option maxHeartbeats 4000000 in
set_option maxRecDepth 100000 in
theorem w_L_rename {p : Program} {l : Launch} {e : Env} {s : State} {m : MethodId} {below : List Frame} {meth : Method} {c : Code} {b L : Nat} {xs : Nat → Int32} {D : va_G} {cI cZ : ClassId} (F : Nat) (Rl : RlT) (hst : St_rename F Rl) (cx : lwC p s m meth c b L xs D cI cZ) (v0 v1 v2 v3 v4 v5 v6 v7 v8 v9 v10 v11 v12 v13 v14 v15 y0 y1 y2 y3 y4 y5 y6 y7 y8 y9 y10 y11 n : Nat) (hL : L ≤ 2560) (hk : 5 * n + 5 ≤ L) (kk : LGo p l e s m below meth c b D cI cZ Rl v0 v1 v2 v3 v4 v5 v6 v7 v8 v9 v10 v11 v12 v13 v14 v15 y0 y1 y2 y3 y4 y5 y6 y7 y8 y9 y10 y11 589 (n + 1) (5 * n)) : LGo p l e s m below meth c b D cI cZ Rl v0 v1 v2 v3 v4 v5 v6 v7 v8 v9 v10 v11 v12 v13 v14 v15 y0 y1 y2 y3 y4 y5 y6 y7 y8 y9 y10 y11 243 n (5 * n) := by
  obtain ⟨cf, hr, hlk, hK, hN, hX, hbl⟩ := cx
  have hx := cf.1
  have hb := cf.2.1
  have hown := cf.2.2.2.1
  have hA : ∀ q : Nat, s.heap.size ≤ q → (fun q => s.heap.size ≤ q) q := fun q h => h
  have hbA : ¬ (fun q => s.heap.size ≤ q) b := Nat.not_le.mpr hbl
  intro v_m_maps v_m_tables v_m_words v_m_blank v_m_queue v_d_maps v_d_tables v_d_words v_d_blank v_d_queue v_young v_dropped v_leaving v_ren r_mem r_dsk r_fresh r_young r_dropped r_released r_owed r_counted r_inMemory r_onDisk r_thn r_moved H locs ls hRl hl hP hD hS
  refine lv_aload_n hx hb d_L_243 rfl (lv_at hl 2 rfl) ?_
  refine lv_aload_n hx hb d_L_244 rfl (lv_at hl 1 rfl) ?_
  refine lv_iload_n hx hb d_L_245 rfl (lv_at hl 0 rfl) ?_
  refine lv_iconst (v := (nI 1)) hx hb d_L_246 (by decide) ?_
  refine lv_iadd hx hb d_L_247 ?_
  refine va_sld hx hb hX hbl hbA hS (by rw [nI_add]; exact vp_in_nI (by omega) (by omega)) d_L_248 ?_
  refine lv_aload_n hx hb d_L_249 rfl (lv_at hl 1 rfl) ?_
  refine lv_iload_n hx hb d_L_250 rfl (lv_at hl 0 rfl) ?_
  refine lv_iconst (v := (nI 2)) hx hb d_L_251 (by decide) ?_
  refine lv_iadd hx hb d_L_252 ?_
  refine va_sld hx hb hX hbl hbA hS (by rw [nI_add]; exact vp_in_nI (by omega) (by omega)) d_L_253 ?_
  refine lv_aload_n hx hb d_L_254 rfl (lv_at hl 1 rfl) ?_
  refine lv_iload_n hx hb d_L_255 rfl (lv_at hl 0 rfl) ?_
  refine lv_iconst (v := (nI 3)) hx hb d_L_256 (by decide) ?_
  refine lv_iadd hx hb d_L_257 ?_
  refine va_sld hx hb hX hbl hbA hS (by rw [nI_add]; exact vp_in_nI (by omega) (by omega)) d_L_258 ?_
  refine lv_aload_n hx hb d_L_259 rfl (lv_at hl 1 rfl) ?_
  refine lv_iload_n hx hb d_L_260 rfl (lv_at hl 0 rfl) ?_
  refine lv_iconst (v := (nI 4)) hx hb d_L_261 (by decide) ?_
  refine lv_iadd hx hb d_L_262 ?_
  refine va_sld hx hb hX hbl hbA hS (by rw [nI_add]; exact vp_in_nI (by omega) (by omega)) d_L_263 ?_
  obtain ⟨r, v_m_maps', v_m_tables', v_m_words', v_m_queue', v_d_maps', v_d_tables', v_d_words', v_d_blank', v_d_queue', v_young', v_dropped', v_leaving', v_ren', r_young', r_dropped', r_mem', r_dsk', r_fresh', r_released', r_owed', r_counted', r_inMemory', r_onDisk', r_thn', r_moved', e1, e2, hR⟩ := hst n v_m_maps v_m_tables v_m_words v_m_blank v_m_queue v_d_maps v_d_tables v_d_words v_d_blank v_d_queue v_young v_dropped v_leaving v_ren r_mem r_dsk r_fresh r_young r_dropped r_released r_owed r_counted r_inMemory r_onDisk r_thn r_moved (xs ((nI (5 * n)) + (nI 1)).toNatClampNeg) (xs ((nI (5 * n)) + (nI 2)).toNatClampNeg) (xs ((nI (5 * n)) + (nI 3)).toNatClampNeg) (xs ((nI (5 * n)) + (nI 4)).toNatClampNeg) (by omega) hRl
  refine wk_ViC (As := [.int (xs ((nI (5 * n)) + (nI 1)).toNatClampNeg), .int (xs ((nI (5 * n)) + (nI 2)).toNatClampNeg), .int (xs ((nI (5 * n)) + (nI 3)).toNatClampNeg), .int (xs ((nI (5 * n)) + (nI 4)).toNatClampNeg)]) (rest := []) (wc := w_V cI cZ v0 v1 v2 v3 v4 v5 v6 v7 v8 v9 v10 v11 v12 v13 v14 v15 v_m_maps v_m_tables v_m_words v_m_blank v_m_queue v_d_maps v_d_tables v_d_words v_d_blank v_d_queue v_young v_dropped v_leaving v_ren) (w1 := w_V cI cZ v0 v1 v2 v3 v4 v5 v6 v7 v8 v9 v10 v11 v12 v13 v14 v15 v_m_maps' v_m_tables' v_m_words' v_m_blank v_m_queue' v_d_maps' v_d_tables' v_d_words' v_d_blank' v_d_queue' v_young' v_dropped' v_leaving' v_ren') (wr := w_R cI cZ y0 y1 y2 y3 y4 y5 y6 y7 y8 y9 y10 y11 r_mem r_dsk r_fresh r_young r_dropped r_released r_owed r_counted r_inMemory r_onDisk r_thn r_moved) (wz := (w_V cI cZ v0 v1 v2 v3 v4 v5 v6 v7 v8 v9 v10 v11 v12 v13 v14 v15 v_m_maps' v_m_tables' v_m_words' v_m_blank v_m_queue' v_d_maps' v_d_tables' v_d_words' v_d_blank' v_d_queue' v_young' v_dropped' v_leaving' v_ren' ++ w_R cI cZ y0 y1 y2 y3 y4 y5 y6 y7 y8 y9 y10 y11 r_mem r_dsk r_fresh r_young r_dropped r_released r_owed r_counted r_inMemory r_onDisk r_thn r_moved)) cf ⟨by decide, by decide⟩ hK hN hA (c_V_rename l D cI cZ v0 v1 v2 v3 v4 v5 v6 v7 v8 v9 v10 v11 v12 v13 v14 v15 F v_m_maps v_m_tables v_m_words v_m_blank v_m_queue v_d_maps v_d_tables v_d_words v_d_blank v_d_queue v_young v_dropped v_leaving v_ren v_m_maps' v_m_tables' v_m_words' v_m_queue' v_d_maps' v_d_tables' v_d_words' v_d_blank' v_d_queue' v_young' v_dropped' v_leaving' v_ren' (xs ((nI (5 * n)) + (nI 1)).toNatClampNeg) (xs ((nI (5 * n)) + (nI 2)).toNatClampNeg) (xs ((nI (5 * n)) + (nI 3)).toNatClampNeg) (xs ((nI (5 * n)) + (nI 4)).toNatClampNeg) r e1) k_L_28 ⟨rfl, rfl, by decide, by decide⟩ 1 rfl rfl rfl hl hP hD hS [0, 1, 2, 3, 4, 5, 6, 7, 8, 9, 10, 11, 12, 13, 14, 15] [16, 17, 18, 19, 20, 21, 22, 23, 24, 25, 26, 27] [12, 13, 14, 15, 16, 17, 18, 19, 20, 21, 22, 23, 24, 25, 26, 27, 0, 1, 2, 3, 4, 5, 6, 7, 8, 9, 10, 11] rfl rfl rfl (by decide) rfl rfl rfl rfl rfl (Nat.le_of_ble_eq_true rfl) rfl d_L_264 (fun H locs hP hD hS => ?_)
  refine lv_aload_n hx hb d_L_267 rfl (lv_at hl 3 rfl) ?_
  refine lv_aload_n hx hb d_L_268 rfl (lv_at hl 1 rfl) ?_
  refine lv_iload_n hx hb d_L_269 rfl (lv_at hl 0 rfl) ?_
  refine lv_iconst (v := (nI 1)) hx hb d_L_270 (by decide) ?_
  refine lv_iadd hx hb d_L_271 ?_
  refine va_sld hx hb hX hbl hbA hS (by rw [nI_add]; exact vp_in_nI (by omega) (by omega)) d_L_272 ?_
  refine lv_aload_n hx hb d_L_273 rfl (lv_at hl 1 rfl) ?_
  refine lv_iload_n hx hb d_L_274 rfl (lv_at hl 0 rfl) ?_
  refine lv_iconst (v := (nI 2)) hx hb d_L_275 (by decide) ?_
  refine lv_iadd hx hb d_L_276 ?_
  refine va_sld hx hb hX hbl hbA hS (by rw [nI_add]; exact vp_in_nI (by omega) (by omega)) d_L_277 ?_
  refine lv_aload_n hx hb d_L_278 rfl (lv_at hl 1 rfl) ?_
  refine lv_iload_n hx hb d_L_279 rfl (lv_at hl 0 rfl) ?_
  refine lv_iconst (v := (nI 3)) hx hb d_L_280 (by decide) ?_
  refine lv_iadd hx hb d_L_281 ?_
  refine va_sld hx hb hX hbl hbA hS (by rw [nI_add]; exact vp_in_nI (by omega) (by omega)) d_L_282 ?_
  refine lv_aload_n hx hb d_L_283 rfl (lv_at hl 1 rfl) ?_
  refine lv_iload_n hx hb d_L_284 rfl (lv_at hl 0 rfl) ?_
  refine lv_iconst (v := (nI 4)) hx hb d_L_285 (by decide) ?_
  refine lv_iadd hx hb d_L_286 ?_
  refine va_sld hx hb hX hbl hbA hS (by rw [nI_add]; exact vp_in_nI (by omega) (by omega)) d_L_287 ?_
  refine wk_ViC (As := [.int (xs ((nI (5 * n)) + (nI 1)).toNatClampNeg), .int (xs ((nI (5 * n)) + (nI 2)).toNatClampNeg), .int (xs ((nI (5 * n)) + (nI 3)).toNatClampNeg), .int (xs ((nI (5 * n)) + (nI 4)).toNatClampNeg)]) (rest := [.int r]) (wc := w_R cI cZ y0 y1 y2 y3 y4 y5 y6 y7 y8 y9 y10 y11 r_mem r_dsk r_fresh r_young r_dropped r_released r_owed r_counted r_inMemory r_onDisk r_thn r_moved) (w1 := w_R cI cZ y0 y1 y2 y3 y4 y5 y6 y7 y8 y9 y10 y11 r_mem' r_dsk' r_fresh' r_young' r_dropped' r_released' r_owed' r_counted' r_inMemory' r_onDisk' r_thn' r_moved') (wr := w_V cI cZ v0 v1 v2 v3 v4 v5 v6 v7 v8 v9 v10 v11 v12 v13 v14 v15 v_m_maps' v_m_tables' v_m_words' v_m_blank v_m_queue' v_d_maps' v_d_tables' v_d_words' v_d_blank' v_d_queue' v_young' v_dropped' v_leaving' v_ren') (wz := (w_V cI cZ v0 v1 v2 v3 v4 v5 v6 v7 v8 v9 v10 v11 v12 v13 v14 v15 v_m_maps' v_m_tables' v_m_words' v_m_blank v_m_queue' v_d_maps' v_d_tables' v_d_words' v_d_blank' v_d_queue' v_young' v_dropped' v_leaving' v_ren' ++ w_R cI cZ y0 y1 y2 y3 y4 y5 y6 y7 y8 y9 y10 y11 r_mem' r_dsk' r_fresh' r_young' r_dropped' r_released' r_owed' r_counted' r_inMemory' r_onDisk' r_thn' r_moved')) cf ⟨by decide, by decide⟩ hK hN hA (c_R_rename l D cI cZ y0 y1 y2 y3 y4 y5 y6 y7 y8 y9 y10 y11 F r_mem r_dsk r_fresh r_young r_dropped r_released r_owed r_counted r_inMemory r_onDisk r_thn r_moved r_young' r_dropped' r_mem' r_dsk' r_fresh' r_released' r_owed' r_counted' r_inMemory' r_onDisk' r_thn' r_moved' (xs ((nI (5 * n)) + (nI 1)).toNatClampNeg) (xs ((nI (5 * n)) + (nI 2)).toNatClampNeg) (xs ((nI (5 * n)) + (nI 3)).toNatClampNeg) (xs ((nI (5 * n)) + (nI 4)).toNatClampNeg) r e2) k_L_32 ⟨rfl, rfl, by decide, by decide⟩ 2 rfl rfl rfl hl hP hD hS [16, 17, 18, 19, 20, 21, 22, 23, 24, 25, 26, 27] [0, 1, 2, 3, 4, 5, 6, 7, 8, 9, 10, 11, 12, 13, 14, 15] [0, 1, 2, 3, 4, 5, 6, 7, 8, 9, 10, 11, 12, 13, 14, 15, 16, 17, 18, 19, 20, 21, 22, 23, 24, 25, 26, 27] rfl rfl rfl (by decide) rfl rfl rfl rfl rfl (Nat.le_of_ble_eq_true rfl) rfl d_L_288 (fun H locs hP hD hS => ?_)
  refine lv_icmp_eq hx hb d_L_291 rfl (fun _ => ?_) (fun hc => absurd rfl hc)
  exact kk v_m_maps' v_m_tables' v_m_words' v_m_blank v_m_queue' v_d_maps' v_d_tables' v_d_words' v_d_blank' v_d_queue' v_young' v_dropped' v_leaving' v_ren' r_mem' r_dsk' r_fresh' r_young' r_dropped' r_released' r_owed' r_counted' r_inMemory' r_onDisk' r_thn' r_moved' H locs ls hR hl hP hD hS
set_option maxHeartbeats 4000000 in
set_option maxRecDepth 100000 in
theorem w_L_write {p : Program} {l : Launch} {e : Env} {s : State} {m : MethodId} {below : List Frame} {meth : Method} {c : Code} {b L : Nat} {xs : Nat → Int32} {D : va_G} {cI cZ : ClassId} (F : Nat) (Rl : RlT) (hst : St_write F Rl) (cx : lwC p s m meth c b L xs D cI cZ) (v0 v1 v2 v3 v4 v5 v6 v7 v8 v9 v10 v11 v12 v13 v14 v15 y0 y1 y2 y3 y4 y5 y6 y7 y8 y9 y10 y11 n : Nat) (hL : L ≤ 2560) (hk : 5 * n + 5 ≤ L) (kk : LGo p l e s m below meth c b D cI cZ Rl v0 v1 v2 v3 v4 v5 v6 v7 v8 v9 v10 v11 v12 v13 v14 v15 y0 y1 y2 y3 y4 y5 y6 y7 y8 y9 y10 y11 589 (n + 1) (5 * n)) : LGo p l e s m below meth c b D cI cZ Rl v0 v1 v2 v3 v4 v5 v6 v7 v8 v9 v10 v11 v12 v13 v14 v15 y0 y1 y2 y3 y4 y5 y6 y7 y8 y9 y10 y11 296 n (5 * n) := by
  obtain ⟨cf, hr, hlk, hK, hN, hX, hbl⟩ := cx
  have hx := cf.1
  have hb := cf.2.1
  have hown := cf.2.2.2.1
  have hA : ∀ q : Nat, s.heap.size ≤ q → (fun q => s.heap.size ≤ q) q := fun q h => h
  have hbA : ¬ (fun q => s.heap.size ≤ q) b := Nat.not_le.mpr hbl
  intro v_m_maps v_m_tables v_m_words v_m_blank v_m_queue v_d_maps v_d_tables v_d_words v_d_blank v_d_queue v_young v_dropped v_leaving v_ren r_mem r_dsk r_fresh r_young r_dropped r_released r_owed r_counted r_inMemory r_onDisk r_thn r_moved H locs ls hRl hl hP hD hS
  refine lv_aload_n hx hb d_L_296 rfl (lv_at hl 2 rfl) ?_
  refine lv_aload_n hx hb d_L_297 rfl (lv_at hl 1 rfl) ?_
  refine lv_iload_n hx hb d_L_298 rfl (lv_at hl 0 rfl) ?_
  refine lv_iconst (v := (nI 1)) hx hb d_L_299 (by decide) ?_
  refine lv_iadd hx hb d_L_300 ?_
  refine va_sld hx hb hX hbl hbA hS (by rw [nI_add]; exact vp_in_nI (by omega) (by omega)) d_L_301 ?_
  refine lv_aload_n hx hb d_L_302 rfl (lv_at hl 1 rfl) ?_
  refine lv_iload_n hx hb d_L_303 rfl (lv_at hl 0 rfl) ?_
  refine lv_iconst (v := (nI 2)) hx hb d_L_304 (by decide) ?_
  refine lv_iadd hx hb d_L_305 ?_
  refine va_sld hx hb hX hbl hbA hS (by rw [nI_add]; exact vp_in_nI (by omega) (by omega)) d_L_306 ?_
  refine lv_aload_n hx hb d_L_307 rfl (lv_at hl 1 rfl) ?_
  refine lv_iload_n hx hb d_L_308 rfl (lv_at hl 0 rfl) ?_
  refine lv_iconst (v := (nI 3)) hx hb d_L_309 (by decide) ?_
  refine lv_iadd hx hb d_L_310 ?_
  refine va_sld hx hb hX hbl hbA hS (by rw [nI_add]; exact vp_in_nI (by omega) (by omega)) d_L_311 ?_
  obtain ⟨r, v_m_maps', v_m_tables', v_m_words', v_m_queue', v_d_maps', v_d_tables', v_d_words', v_d_blank', v_d_queue', v_young', v_dropped', v_leaving', v_ren', r_young', r_dropped', r_mem', r_dsk', r_fresh', r_released', r_owed', r_counted', r_inMemory', r_onDisk', r_thn', r_moved', e1, e2, hR⟩ := hst n v_m_maps v_m_tables v_m_words v_m_blank v_m_queue v_d_maps v_d_tables v_d_words v_d_blank v_d_queue v_young v_dropped v_leaving v_ren r_mem r_dsk r_fresh r_young r_dropped r_released r_owed r_counted r_inMemory r_onDisk r_thn r_moved (xs ((nI (5 * n)) + (nI 1)).toNatClampNeg) (xs ((nI (5 * n)) + (nI 2)).toNatClampNeg) (xs ((nI (5 * n)) + (nI 3)).toNatClampNeg) (by omega) hRl
  refine wk_ViC (As := [.int (xs ((nI (5 * n)) + (nI 1)).toNatClampNeg), .int (xs ((nI (5 * n)) + (nI 2)).toNatClampNeg), .int (xs ((nI (5 * n)) + (nI 3)).toNatClampNeg)]) (rest := []) (wc := w_V cI cZ v0 v1 v2 v3 v4 v5 v6 v7 v8 v9 v10 v11 v12 v13 v14 v15 v_m_maps v_m_tables v_m_words v_m_blank v_m_queue v_d_maps v_d_tables v_d_words v_d_blank v_d_queue v_young v_dropped v_leaving v_ren) (w1 := w_V cI cZ v0 v1 v2 v3 v4 v5 v6 v7 v8 v9 v10 v11 v12 v13 v14 v15 v_m_maps' v_m_tables' v_m_words' v_m_blank v_m_queue' v_d_maps' v_d_tables' v_d_words' v_d_blank' v_d_queue' v_young' v_dropped' v_leaving' v_ren') (wr := w_R cI cZ y0 y1 y2 y3 y4 y5 y6 y7 y8 y9 y10 y11 r_mem r_dsk r_fresh r_young r_dropped r_released r_owed r_counted r_inMemory r_onDisk r_thn r_moved) (wz := (w_V cI cZ v0 v1 v2 v3 v4 v5 v6 v7 v8 v9 v10 v11 v12 v13 v14 v15 v_m_maps' v_m_tables' v_m_words' v_m_blank v_m_queue' v_d_maps' v_d_tables' v_d_words' v_d_blank' v_d_queue' v_young' v_dropped' v_leaving' v_ren' ++ w_R cI cZ y0 y1 y2 y3 y4 y5 y6 y7 y8 y9 y10 y11 r_mem r_dsk r_fresh r_young r_dropped r_released r_owed r_counted r_inMemory r_onDisk r_thn r_moved)) cf ⟨by decide, by decide⟩ hK hN hA (c_V_write l D cI cZ v0 v1 v2 v3 v4 v5 v6 v7 v8 v9 v10 v11 v12 v13 v14 v15 F v_m_maps v_m_tables v_m_words v_m_blank v_m_queue v_d_maps v_d_tables v_d_words v_d_blank v_d_queue v_young v_dropped v_leaving v_ren v_m_maps' v_m_tables' v_m_words' v_m_queue' v_d_maps' v_d_tables' v_d_words' v_d_blank' v_d_queue' v_young' v_dropped' v_leaving' v_ren' (xs ((nI (5 * n)) + (nI 1)).toNatClampNeg) (xs ((nI (5 * n)) + (nI 2)).toNatClampNeg) (xs ((nI (5 * n)) + (nI 3)).toNatClampNeg) r e1) k_L_33 ⟨rfl, rfl, by decide, by decide⟩ 1 rfl rfl rfl hl hP hD hS [0, 1, 2, 3, 4, 5, 6, 7, 8, 9, 10, 11, 12, 13, 14, 15] [16, 17, 18, 19, 20, 21, 22, 23, 24, 25, 26, 27] [12, 13, 14, 15, 16, 17, 18, 19, 20, 21, 22, 23, 24, 25, 26, 27, 0, 1, 2, 3, 4, 5, 6, 7, 8, 9, 10, 11] rfl rfl rfl (by decide) rfl rfl rfl rfl rfl (Nat.le_of_ble_eq_true rfl) rfl d_L_312 (fun H locs hP hD hS => ?_)
  refine lv_aload_n hx hb d_L_315 rfl (lv_at hl 3 rfl) ?_
  refine lv_aload_n hx hb d_L_316 rfl (lv_at hl 1 rfl) ?_
  refine lv_iload_n hx hb d_L_317 rfl (lv_at hl 0 rfl) ?_
  refine lv_iconst (v := (nI 1)) hx hb d_L_318 (by decide) ?_
  refine lv_iadd hx hb d_L_319 ?_
  refine va_sld hx hb hX hbl hbA hS (by rw [nI_add]; exact vp_in_nI (by omega) (by omega)) d_L_320 ?_
  refine lv_aload_n hx hb d_L_321 rfl (lv_at hl 1 rfl) ?_
  refine lv_iload_n hx hb d_L_322 rfl (lv_at hl 0 rfl) ?_
  refine lv_iconst (v := (nI 2)) hx hb d_L_323 (by decide) ?_
  refine lv_iadd hx hb d_L_324 ?_
  refine va_sld hx hb hX hbl hbA hS (by rw [nI_add]; exact vp_in_nI (by omega) (by omega)) d_L_325 ?_
  refine lv_aload_n hx hb d_L_326 rfl (lv_at hl 1 rfl) ?_
  refine lv_iload_n hx hb d_L_327 rfl (lv_at hl 0 rfl) ?_
  refine lv_iconst (v := (nI 3)) hx hb d_L_328 (by decide) ?_
  refine lv_iadd hx hb d_L_329 ?_
  refine va_sld hx hb hX hbl hbA hS (by rw [nI_add]; exact vp_in_nI (by omega) (by omega)) d_L_330 ?_
  refine wk_ViC (As := [.int (xs ((nI (5 * n)) + (nI 1)).toNatClampNeg), .int (xs ((nI (5 * n)) + (nI 2)).toNatClampNeg), .int (xs ((nI (5 * n)) + (nI 3)).toNatClampNeg)]) (rest := [.int r]) (wc := w_R cI cZ y0 y1 y2 y3 y4 y5 y6 y7 y8 y9 y10 y11 r_mem r_dsk r_fresh r_young r_dropped r_released r_owed r_counted r_inMemory r_onDisk r_thn r_moved) (w1 := w_R cI cZ y0 y1 y2 y3 y4 y5 y6 y7 y8 y9 y10 y11 r_mem' r_dsk' r_fresh' r_young' r_dropped' r_released' r_owed' r_counted' r_inMemory' r_onDisk' r_thn' r_moved') (wr := w_V cI cZ v0 v1 v2 v3 v4 v5 v6 v7 v8 v9 v10 v11 v12 v13 v14 v15 v_m_maps' v_m_tables' v_m_words' v_m_blank v_m_queue' v_d_maps' v_d_tables' v_d_words' v_d_blank' v_d_queue' v_young' v_dropped' v_leaving' v_ren') (wz := (w_V cI cZ v0 v1 v2 v3 v4 v5 v6 v7 v8 v9 v10 v11 v12 v13 v14 v15 v_m_maps' v_m_tables' v_m_words' v_m_blank v_m_queue' v_d_maps' v_d_tables' v_d_words' v_d_blank' v_d_queue' v_young' v_dropped' v_leaving' v_ren' ++ w_R cI cZ y0 y1 y2 y3 y4 y5 y6 y7 y8 y9 y10 y11 r_mem' r_dsk' r_fresh' r_young' r_dropped' r_released' r_owed' r_counted' r_inMemory' r_onDisk' r_thn' r_moved')) cf ⟨by decide, by decide⟩ hK hN hA (c_R_write l D cI cZ y0 y1 y2 y3 y4 y5 y6 y7 y8 y9 y10 y11 F r_mem r_dsk r_fresh r_young r_dropped r_released r_owed r_counted r_inMemory r_onDisk r_thn r_moved r_young' r_dropped' r_mem' r_dsk' r_fresh' r_released' r_owed' r_counted' r_inMemory' r_onDisk' r_thn' r_moved' (xs ((nI (5 * n)) + (nI 1)).toNatClampNeg) (xs ((nI (5 * n)) + (nI 2)).toNatClampNeg) (xs ((nI (5 * n)) + (nI 3)).toNatClampNeg) r e2) k_L_36 ⟨rfl, rfl, by decide, by decide⟩ 2 rfl rfl rfl hl hP hD hS [16, 17, 18, 19, 20, 21, 22, 23, 24, 25, 26, 27] [0, 1, 2, 3, 4, 5, 6, 7, 8, 9, 10, 11, 12, 13, 14, 15] [0, 1, 2, 3, 4, 5, 6, 7, 8, 9, 10, 11, 12, 13, 14, 15, 16, 17, 18, 19, 20, 21, 22, 23, 24, 25, 26, 27] rfl rfl rfl (by decide) rfl rfl rfl rfl rfl (Nat.le_of_ble_eq_true rfl) rfl d_L_331 (fun H locs hP hD hS => ?_)
  refine lv_icmp_eq hx hb d_L_334 rfl (fun _ => ?_) (fun hc => absurd rfl hc)
  exact kk v_m_maps' v_m_tables' v_m_words' v_m_blank v_m_queue' v_d_maps' v_d_tables' v_d_words' v_d_blank' v_d_queue' v_young' v_dropped' v_leaving' v_ren' r_mem' r_dsk' r_fresh' r_young' r_dropped' r_released' r_owed' r_counted' r_inMemory' r_onDisk' r_thn' r_moved' H locs ls hR hl hP hD hS
set_option maxHeartbeats 4000000 in
set_option maxRecDepth 100000 in
theorem w_L_read {p : Program} {l : Launch} {e : Env} {s : State} {m : MethodId} {below : List Frame} {meth : Method} {c : Code} {b L : Nat} {xs : Nat → Int32} {D : va_G} {cI cZ : ClassId} (F : Nat) (Rl : RlT) (hst : St_read F Rl) (cx : lwC p s m meth c b L xs D cI cZ) (v0 v1 v2 v3 v4 v5 v6 v7 v8 v9 v10 v11 v12 v13 v14 v15 y0 y1 y2 y3 y4 y5 y6 y7 y8 y9 y10 y11 n : Nat) (hL : L ≤ 2560) (hk : 5 * n + 5 ≤ L) (kk : LGo p l e s m below meth c b D cI cZ Rl v0 v1 v2 v3 v4 v5 v6 v7 v8 v9 v10 v11 v12 v13 v14 v15 y0 y1 y2 y3 y4 y5 y6 y7 y8 y9 y10 y11 589 (n + 1) (5 * n)) : LGo p l e s m below meth c b D cI cZ Rl v0 v1 v2 v3 v4 v5 v6 v7 v8 v9 v10 v11 v12 v13 v14 v15 y0 y1 y2 y3 y4 y5 y6 y7 y8 y9 y10 y11 339 n (5 * n) := by
  obtain ⟨cf, hr, hlk, hK, hN, hX, hbl⟩ := cx
  have hx := cf.1
  have hb := cf.2.1
  have hown := cf.2.2.2.1
  have hA : ∀ q : Nat, s.heap.size ≤ q → (fun q => s.heap.size ≤ q) q := fun q h => h
  have hbA : ¬ (fun q => s.heap.size ≤ q) b := Nat.not_le.mpr hbl
  intro v_m_maps v_m_tables v_m_words v_m_blank v_m_queue v_d_maps v_d_tables v_d_words v_d_blank v_d_queue v_young v_dropped v_leaving v_ren r_mem r_dsk r_fresh r_young r_dropped r_released r_owed r_counted r_inMemory r_onDisk r_thn r_moved H locs ls hRl hl hP hD hS
  refine lv_aload_n hx hb d_L_339 rfl (lv_at hl 2 rfl) ?_
  refine lv_aload_n hx hb d_L_340 rfl (lv_at hl 1 rfl) ?_
  refine lv_iload_n hx hb d_L_341 rfl (lv_at hl 0 rfl) ?_
  refine lv_iconst (v := (nI 1)) hx hb d_L_342 (by decide) ?_
  refine lv_iadd hx hb d_L_343 ?_
  refine va_sld hx hb hX hbl hbA hS (by rw [nI_add]; exact vp_in_nI (by omega) (by omega)) d_L_344 ?_
  refine lv_aload_n hx hb d_L_345 rfl (lv_at hl 1 rfl) ?_
  refine lv_iload_n hx hb d_L_346 rfl (lv_at hl 0 rfl) ?_
  refine lv_iconst (v := (nI 2)) hx hb d_L_347 (by decide) ?_
  refine lv_iadd hx hb d_L_348 ?_
  refine va_sld hx hb hX hbl hbA hS (by rw [nI_add]; exact vp_in_nI (by omega) (by omega)) d_L_349 ?_
  obtain ⟨r, v_m_queue', r_inMemory', e1, e2, hR⟩ := hst n v_m_maps v_m_tables v_m_words v_m_blank v_m_queue v_d_maps v_d_tables v_d_words v_d_blank v_d_queue v_young v_dropped v_leaving v_ren r_mem r_dsk r_fresh r_young r_dropped r_released r_owed r_counted r_inMemory r_onDisk r_thn r_moved (xs ((nI (5 * n)) + (nI 1)).toNatClampNeg) (xs ((nI (5 * n)) + (nI 2)).toNatClampNeg) (by omega) hRl
  refine wk_ViC (As := [.int (xs ((nI (5 * n)) + (nI 1)).toNatClampNeg), .int (xs ((nI (5 * n)) + (nI 2)).toNatClampNeg)]) (rest := []) (wc := w_V cI cZ v0 v1 v2 v3 v4 v5 v6 v7 v8 v9 v10 v11 v12 v13 v14 v15 v_m_maps v_m_tables v_m_words v_m_blank v_m_queue v_d_maps v_d_tables v_d_words v_d_blank v_d_queue v_young v_dropped v_leaving v_ren) (w1 := w_V cI cZ v0 v1 v2 v3 v4 v5 v6 v7 v8 v9 v10 v11 v12 v13 v14 v15 v_m_maps v_m_tables v_m_words v_m_blank v_m_queue' v_d_maps v_d_tables v_d_words v_d_blank v_d_queue v_young v_dropped v_leaving v_ren) (wr := w_R cI cZ y0 y1 y2 y3 y4 y5 y6 y7 y8 y9 y10 y11 r_mem r_dsk r_fresh r_young r_dropped r_released r_owed r_counted r_inMemory r_onDisk r_thn r_moved) (wz := (w_V cI cZ v0 v1 v2 v3 v4 v5 v6 v7 v8 v9 v10 v11 v12 v13 v14 v15 v_m_maps v_m_tables v_m_words v_m_blank v_m_queue' v_d_maps v_d_tables v_d_words v_d_blank v_d_queue v_young v_dropped v_leaving v_ren ++ w_R cI cZ y0 y1 y2 y3 y4 y5 y6 y7 y8 y9 y10 y11 r_mem r_dsk r_fresh r_young r_dropped r_released r_owed r_counted r_inMemory r_onDisk r_thn r_moved)) cf ⟨by decide, by decide⟩ hK hN hA (c_V_read l D cI cZ v0 v1 v2 v3 v4 v5 v6 v7 v8 v9 v10 v11 v12 v13 v14 v15 F v_m_maps v_m_tables v_m_words v_m_blank v_m_queue v_d_maps v_d_tables v_d_words v_d_blank v_d_queue v_young v_dropped v_leaving v_ren v_m_queue' (xs ((nI (5 * n)) + (nI 1)).toNatClampNeg) (xs ((nI (5 * n)) + (nI 2)).toNatClampNeg) r e1) k_L_37 ⟨rfl, rfl, by decide, by decide⟩ 1 rfl rfl rfl hl hP hD hS [0, 1, 2, 3, 4, 5, 6, 7, 8, 9, 10, 11, 12, 13, 14, 15] [16, 17, 18, 19, 20, 21, 22, 23, 24, 25, 26, 27] [12, 13, 14, 15, 16, 17, 18, 19, 20, 21, 22, 23, 24, 25, 26, 27, 0, 1, 2, 3, 4, 5, 6, 7, 8, 9, 10, 11] rfl rfl rfl (by decide) rfl rfl rfl rfl rfl (Nat.le_of_ble_eq_true rfl) rfl d_L_350 (fun H locs hP hD hS => ?_)
  refine lv_aload_n hx hb d_L_353 rfl (lv_at hl 3 rfl) ?_
  refine lv_aload_n hx hb d_L_354 rfl (lv_at hl 1 rfl) ?_
  refine lv_iload_n hx hb d_L_355 rfl (lv_at hl 0 rfl) ?_
  refine lv_iconst (v := (nI 1)) hx hb d_L_356 (by decide) ?_
  refine lv_iadd hx hb d_L_357 ?_
  refine va_sld hx hb hX hbl hbA hS (by rw [nI_add]; exact vp_in_nI (by omega) (by omega)) d_L_358 ?_
  refine lv_aload_n hx hb d_L_359 rfl (lv_at hl 1 rfl) ?_
  refine lv_iload_n hx hb d_L_360 rfl (lv_at hl 0 rfl) ?_
  refine lv_iconst (v := (nI 2)) hx hb d_L_361 (by decide) ?_
  refine lv_iadd hx hb d_L_362 ?_
  refine va_sld hx hb hX hbl hbA hS (by rw [nI_add]; exact vp_in_nI (by omega) (by omega)) d_L_363 ?_
  refine wk_ViC (As := [.int (xs ((nI (5 * n)) + (nI 1)).toNatClampNeg), .int (xs ((nI (5 * n)) + (nI 2)).toNatClampNeg)]) (rest := [.int r]) (wc := w_R cI cZ y0 y1 y2 y3 y4 y5 y6 y7 y8 y9 y10 y11 r_mem r_dsk r_fresh r_young r_dropped r_released r_owed r_counted r_inMemory r_onDisk r_thn r_moved) (w1 := w_R cI cZ y0 y1 y2 y3 y4 y5 y6 y7 y8 y9 y10 y11 r_mem r_dsk r_fresh r_young r_dropped r_released r_owed r_counted r_inMemory' r_onDisk r_thn r_moved) (wr := w_V cI cZ v0 v1 v2 v3 v4 v5 v6 v7 v8 v9 v10 v11 v12 v13 v14 v15 v_m_maps v_m_tables v_m_words v_m_blank v_m_queue' v_d_maps v_d_tables v_d_words v_d_blank v_d_queue v_young v_dropped v_leaving v_ren) (wz := (w_V cI cZ v0 v1 v2 v3 v4 v5 v6 v7 v8 v9 v10 v11 v12 v13 v14 v15 v_m_maps v_m_tables v_m_words v_m_blank v_m_queue' v_d_maps v_d_tables v_d_words v_d_blank v_d_queue v_young v_dropped v_leaving v_ren ++ w_R cI cZ y0 y1 y2 y3 y4 y5 y6 y7 y8 y9 y10 y11 r_mem r_dsk r_fresh r_young r_dropped r_released r_owed r_counted r_inMemory' r_onDisk r_thn r_moved)) cf ⟨by decide, by decide⟩ hK hN hA (c_R_read l D cI cZ y0 y1 y2 y3 y4 y5 y6 y7 y8 y9 y10 y11 F r_mem r_dsk r_fresh r_young r_dropped r_released r_owed r_counted r_inMemory r_onDisk r_thn r_moved r_inMemory' (xs ((nI (5 * n)) + (nI 1)).toNatClampNeg) (xs ((nI (5 * n)) + (nI 2)).toNatClampNeg) r e2) k_L_40 ⟨rfl, rfl, by decide, by decide⟩ 2 rfl rfl rfl hl hP hD hS [16, 17, 18, 19, 20, 21, 22, 23, 24, 25, 26, 27] [0, 1, 2, 3, 4, 5, 6, 7, 8, 9, 10, 11, 12, 13, 14, 15] [0, 1, 2, 3, 4, 5, 6, 7, 8, 9, 10, 11, 12, 13, 14, 15, 16, 17, 18, 19, 20, 21, 22, 23, 24, 25, 26, 27] rfl rfl rfl (by decide) rfl rfl rfl rfl rfl (Nat.le_of_ble_eq_true rfl) rfl d_L_364 (fun H locs hP hD hS => ?_)
  refine lv_icmp_eq hx hb d_L_367 rfl (fun _ => ?_) (fun hc => absurd rfl hc)
  exact kk v_m_maps v_m_tables v_m_words v_m_blank v_m_queue' v_d_maps v_d_tables v_d_words v_d_blank v_d_queue v_young v_dropped v_leaving v_ren r_mem r_dsk r_fresh r_young r_dropped r_released r_owed r_counted r_inMemory' r_onDisk r_thn r_moved H locs ls hR hl hP hD hS
set_option maxHeartbeats 4000000 in
set_option maxRecDepth 100000 in
theorem w_L_cut {p : Program} {l : Launch} {e : Env} {s : State} {m : MethodId} {below : List Frame} {meth : Method} {c : Code} {b L : Nat} {xs : Nat → Int32} {D : va_G} {cI cZ : ClassId} (F : Nat) (Rl : RlT) (hst : St_cut F Rl) (cx : lwC p s m meth c b L xs D cI cZ) (v0 v1 v2 v3 v4 v5 v6 v7 v8 v9 v10 v11 v12 v13 v14 v15 y0 y1 y2 y3 y4 y5 y6 y7 y8 y9 y10 y11 n : Nat) (hL : L ≤ 2560) (hk : 5 * n + 5 ≤ L) (kk : LGo p l e s m below meth c b D cI cZ Rl v0 v1 v2 v3 v4 v5 v6 v7 v8 v9 v10 v11 v12 v13 v14 v15 y0 y1 y2 y3 y4 y5 y6 y7 y8 y9 y10 y11 589 (n + 1) (5 * n)) : LGo p l e s m below meth c b D cI cZ Rl v0 v1 v2 v3 v4 v5 v6 v7 v8 v9 v10 v11 v12 v13 v14 v15 y0 y1 y2 y3 y4 y5 y6 y7 y8 y9 y10 y11 372 n (5 * n) := by
  obtain ⟨cf, hr, hlk, hK, hN, hX, hbl⟩ := cx
  have hx := cf.1
  have hb := cf.2.1
  have hown := cf.2.2.2.1
  have hA : ∀ q : Nat, s.heap.size ≤ q → (fun q => s.heap.size ≤ q) q := fun q h => h
  have hbA : ¬ (fun q => s.heap.size ≤ q) b := Nat.not_le.mpr hbl
  intro v_m_maps v_m_tables v_m_words v_m_blank v_m_queue v_d_maps v_d_tables v_d_words v_d_blank v_d_queue v_young v_dropped v_leaving v_ren r_mem r_dsk r_fresh r_young r_dropped r_released r_owed r_counted r_inMemory r_onDisk r_thn r_moved H locs ls hRl hl hP hD hS
  refine lv_aload_n hx hb d_L_372 rfl (lv_at hl 2 rfl) ?_
  refine lv_aload_n hx hb d_L_373 rfl (lv_at hl 1 rfl) ?_
  refine lv_iload_n hx hb d_L_374 rfl (lv_at hl 0 rfl) ?_
  refine lv_iconst (v := (nI 1)) hx hb d_L_375 (by decide) ?_
  refine lv_iadd hx hb d_L_376 ?_
  refine va_sld hx hb hX hbl hbA hS (by rw [nI_add]; exact vp_in_nI (by omega) (by omega)) d_L_377 ?_
  refine lv_aload_n hx hb d_L_378 rfl (lv_at hl 1 rfl) ?_
  refine lv_iload_n hx hb d_L_379 rfl (lv_at hl 0 rfl) ?_
  refine lv_iconst (v := (nI 2)) hx hb d_L_380 (by decide) ?_
  refine lv_iadd hx hb d_L_381 ?_
  refine va_sld hx hb hX hbl hbA hS (by rw [nI_add]; exact vp_in_nI (by omega) (by omega)) d_L_382 ?_
  obtain ⟨r, v_m_maps', v_m_tables', v_m_queue', v_dropped', v_leaving', r_dropped', r_mem', r_released', r_owed', r_counted', r_inMemory', e1, e2, hR⟩ := hst n v_m_maps v_m_tables v_m_words v_m_blank v_m_queue v_d_maps v_d_tables v_d_words v_d_blank v_d_queue v_young v_dropped v_leaving v_ren r_mem r_dsk r_fresh r_young r_dropped r_released r_owed r_counted r_inMemory r_onDisk r_thn r_moved (xs ((nI (5 * n)) + (nI 1)).toNatClampNeg) (xs ((nI (5 * n)) + (nI 2)).toNatClampNeg) (by omega) hRl
  refine wk_ViC (As := [.int (xs ((nI (5 * n)) + (nI 1)).toNatClampNeg), .int (xs ((nI (5 * n)) + (nI 2)).toNatClampNeg)]) (rest := []) (wc := w_V cI cZ v0 v1 v2 v3 v4 v5 v6 v7 v8 v9 v10 v11 v12 v13 v14 v15 v_m_maps v_m_tables v_m_words v_m_blank v_m_queue v_d_maps v_d_tables v_d_words v_d_blank v_d_queue v_young v_dropped v_leaving v_ren) (w1 := w_V cI cZ v0 v1 v2 v3 v4 v5 v6 v7 v8 v9 v10 v11 v12 v13 v14 v15 v_m_maps' v_m_tables' v_m_words v_m_blank v_m_queue' v_d_maps v_d_tables v_d_words v_d_blank v_d_queue v_young v_dropped' v_leaving' v_ren) (wr := w_R cI cZ y0 y1 y2 y3 y4 y5 y6 y7 y8 y9 y10 y11 r_mem r_dsk r_fresh r_young r_dropped r_released r_owed r_counted r_inMemory r_onDisk r_thn r_moved) (wz := (w_V cI cZ v0 v1 v2 v3 v4 v5 v6 v7 v8 v9 v10 v11 v12 v13 v14 v15 v_m_maps' v_m_tables' v_m_words v_m_blank v_m_queue' v_d_maps v_d_tables v_d_words v_d_blank v_d_queue v_young v_dropped' v_leaving' v_ren ++ w_R cI cZ y0 y1 y2 y3 y4 y5 y6 y7 y8 y9 y10 y11 r_mem r_dsk r_fresh r_young r_dropped r_released r_owed r_counted r_inMemory r_onDisk r_thn r_moved)) cf ⟨by decide, by decide⟩ hK hN hA (c_V_cut l D cI cZ v0 v1 v2 v3 v4 v5 v6 v7 v8 v9 v10 v11 v12 v13 v14 v15 F v_m_maps v_m_tables v_m_words v_m_blank v_m_queue v_d_maps v_d_tables v_d_words v_d_blank v_d_queue v_young v_dropped v_leaving v_ren v_m_maps' v_m_tables' v_m_queue' v_dropped' v_leaving' (xs ((nI (5 * n)) + (nI 1)).toNatClampNeg) (xs ((nI (5 * n)) + (nI 2)).toNatClampNeg) r e1) k_L_41 ⟨rfl, rfl, by decide, by decide⟩ 1 rfl rfl rfl hl hP hD hS [0, 1, 2, 3, 4, 5, 6, 7, 8, 9, 10, 11, 12, 13, 14, 15] [16, 17, 18, 19, 20, 21, 22, 23, 24, 25, 26, 27] [12, 13, 14, 15, 16, 17, 18, 19, 20, 21, 22, 23, 24, 25, 26, 27, 0, 1, 2, 3, 4, 5, 6, 7, 8, 9, 10, 11] rfl rfl rfl (by decide) rfl rfl rfl rfl rfl (Nat.le_of_ble_eq_true rfl) rfl d_L_383 (fun H locs hP hD hS => ?_)
  refine lv_aload_n hx hb d_L_386 rfl (lv_at hl 3 rfl) ?_
  refine lv_aload_n hx hb d_L_387 rfl (lv_at hl 1 rfl) ?_
  refine lv_iload_n hx hb d_L_388 rfl (lv_at hl 0 rfl) ?_
  refine lv_iconst (v := (nI 1)) hx hb d_L_389 (by decide) ?_
  refine lv_iadd hx hb d_L_390 ?_
  refine va_sld hx hb hX hbl hbA hS (by rw [nI_add]; exact vp_in_nI (by omega) (by omega)) d_L_391 ?_
  refine lv_aload_n hx hb d_L_392 rfl (lv_at hl 1 rfl) ?_
  refine lv_iload_n hx hb d_L_393 rfl (lv_at hl 0 rfl) ?_
  refine lv_iconst (v := (nI 2)) hx hb d_L_394 (by decide) ?_
  refine lv_iadd hx hb d_L_395 ?_
  refine va_sld hx hb hX hbl hbA hS (by rw [nI_add]; exact vp_in_nI (by omega) (by omega)) d_L_396 ?_
  refine wk_ViC (As := [.int (xs ((nI (5 * n)) + (nI 1)).toNatClampNeg), .int (xs ((nI (5 * n)) + (nI 2)).toNatClampNeg)]) (rest := [.int r]) (wc := w_R cI cZ y0 y1 y2 y3 y4 y5 y6 y7 y8 y9 y10 y11 r_mem r_dsk r_fresh r_young r_dropped r_released r_owed r_counted r_inMemory r_onDisk r_thn r_moved) (w1 := w_R cI cZ y0 y1 y2 y3 y4 y5 y6 y7 y8 y9 y10 y11 r_mem' r_dsk r_fresh r_young r_dropped' r_released' r_owed' r_counted' r_inMemory' r_onDisk r_thn r_moved) (wr := w_V cI cZ v0 v1 v2 v3 v4 v5 v6 v7 v8 v9 v10 v11 v12 v13 v14 v15 v_m_maps' v_m_tables' v_m_words v_m_blank v_m_queue' v_d_maps v_d_tables v_d_words v_d_blank v_d_queue v_young v_dropped' v_leaving' v_ren) (wz := (w_V cI cZ v0 v1 v2 v3 v4 v5 v6 v7 v8 v9 v10 v11 v12 v13 v14 v15 v_m_maps' v_m_tables' v_m_words v_m_blank v_m_queue' v_d_maps v_d_tables v_d_words v_d_blank v_d_queue v_young v_dropped' v_leaving' v_ren ++ w_R cI cZ y0 y1 y2 y3 y4 y5 y6 y7 y8 y9 y10 y11 r_mem' r_dsk r_fresh r_young r_dropped' r_released' r_owed' r_counted' r_inMemory' r_onDisk r_thn r_moved)) cf ⟨by decide, by decide⟩ hK hN hA (c_R_cut l D cI cZ y0 y1 y2 y3 y4 y5 y6 y7 y8 y9 y10 y11 F r_mem r_dsk r_fresh r_young r_dropped r_released r_owed r_counted r_inMemory r_onDisk r_thn r_moved r_dropped' r_mem' r_released' r_owed' r_counted' r_inMemory' (xs ((nI (5 * n)) + (nI 1)).toNatClampNeg) (xs ((nI (5 * n)) + (nI 2)).toNatClampNeg) r e2) k_L_44 ⟨rfl, rfl, by decide, by decide⟩ 2 rfl rfl rfl hl hP hD hS [16, 17, 18, 19, 20, 21, 22, 23, 24, 25, 26, 27] [0, 1, 2, 3, 4, 5, 6, 7, 8, 9, 10, 11, 12, 13, 14, 15] [0, 1, 2, 3, 4, 5, 6, 7, 8, 9, 10, 11, 12, 13, 14, 15, 16, 17, 18, 19, 20, 21, 22, 23, 24, 25, 26, 27] rfl rfl rfl (by decide) rfl rfl rfl rfl rfl (Nat.le_of_ble_eq_true rfl) rfl d_L_397 (fun H locs hP hD hS => ?_)
  refine lv_icmp_eq hx hb d_L_400 rfl (fun _ => ?_) (fun hc => absurd rfl hc)
  exact kk v_m_maps' v_m_tables' v_m_words v_m_blank v_m_queue' v_d_maps v_d_tables v_d_words v_d_blank v_d_queue v_young v_dropped' v_leaving' v_ren r_mem' r_dsk r_fresh r_young r_dropped' r_released' r_owed' r_counted' r_inMemory' r_onDisk r_thn r_moved H locs ls hR hl hP hD hS
set_option maxHeartbeats 4000000 in
set_option maxRecDepth 100000 in
theorem w_L_lookup {p : Program} {l : Launch} {e : Env} {s : State} {m : MethodId} {below : List Frame} {meth : Method} {c : Code} {b L : Nat} {xs : Nat → Int32} {D : va_G} {cI cZ : ClassId} (F : Nat) (Rl : RlT) (hst : St_lookup F Rl) (cx : lwC p s m meth c b L xs D cI cZ) (v0 v1 v2 v3 v4 v5 v6 v7 v8 v9 v10 v11 v12 v13 v14 v15 y0 y1 y2 y3 y4 y5 y6 y7 y8 y9 y10 y11 n : Nat) (hL : L ≤ 2560) (hk : 5 * n + 5 ≤ L) (kk : LGo p l e s m below meth c b D cI cZ Rl v0 v1 v2 v3 v4 v5 v6 v7 v8 v9 v10 v11 v12 v13 v14 v15 y0 y1 y2 y3 y4 y5 y6 y7 y8 y9 y10 y11 589 (n + 1) (5 * n)) : LGo p l e s m below meth c b D cI cZ Rl v0 v1 v2 v3 v4 v5 v6 v7 v8 v9 v10 v11 v12 v13 v14 v15 y0 y1 y2 y3 y4 y5 y6 y7 y8 y9 y10 y11 405 n (5 * n) := by
  obtain ⟨cf, hr, hlk, hK, hN, hX, hbl⟩ := cx
  have hx := cf.1
  have hb := cf.2.1
  have hown := cf.2.2.2.1
  have hA : ∀ q : Nat, s.heap.size ≤ q → (fun q => s.heap.size ≤ q) q := fun q h => h
  have hbA : ¬ (fun q => s.heap.size ≤ q) b := Nat.not_le.mpr hbl
  intro v_m_maps v_m_tables v_m_words v_m_blank v_m_queue v_d_maps v_d_tables v_d_words v_d_blank v_d_queue v_young v_dropped v_leaving v_ren r_mem r_dsk r_fresh r_young r_dropped r_released r_owed r_counted r_inMemory r_onDisk r_thn r_moved H locs ls hRl hl hP hD hS
  refine lv_aload_n hx hb d_L_405 rfl (lv_at hl 2 rfl) ?_
  refine lv_aload_n hx hb d_L_406 rfl (lv_at hl 1 rfl) ?_
  refine lv_iload_n hx hb d_L_407 rfl (lv_at hl 0 rfl) ?_
  refine lv_iconst (v := (nI 1)) hx hb d_L_408 (by decide) ?_
  refine lv_iadd hx hb d_L_409 ?_
  refine va_sld hx hb hX hbl hbA hS (by rw [nI_add]; exact vp_in_nI (by omega) (by omega)) d_L_410 ?_
  refine lv_aload_n hx hb d_L_411 rfl (lv_at hl 1 rfl) ?_
  refine lv_iload_n hx hb d_L_412 rfl (lv_at hl 0 rfl) ?_
  refine lv_iconst (v := (nI 2)) hx hb d_L_413 (by decide) ?_
  refine lv_iadd hx hb d_L_414 ?_
  refine va_sld hx hb hX hbl hbA hS (by rw [nI_add]; exact vp_in_nI (by omega) (by omega)) d_L_415 ?_
  obtain ⟨r, v_m_queue', r_inMemory', e1, e2, hR⟩ := hst n v_m_maps v_m_tables v_m_words v_m_blank v_m_queue v_d_maps v_d_tables v_d_words v_d_blank v_d_queue v_young v_dropped v_leaving v_ren r_mem r_dsk r_fresh r_young r_dropped r_released r_owed r_counted r_inMemory r_onDisk r_thn r_moved (xs ((nI (5 * n)) + (nI 1)).toNatClampNeg) (xs ((nI (5 * n)) + (nI 2)).toNatClampNeg) (by omega) hRl
  refine wk_ViC (As := [.int (xs ((nI (5 * n)) + (nI 1)).toNatClampNeg), .int (xs ((nI (5 * n)) + (nI 2)).toNatClampNeg)]) (rest := []) (wc := w_V cI cZ v0 v1 v2 v3 v4 v5 v6 v7 v8 v9 v10 v11 v12 v13 v14 v15 v_m_maps v_m_tables v_m_words v_m_blank v_m_queue v_d_maps v_d_tables v_d_words v_d_blank v_d_queue v_young v_dropped v_leaving v_ren) (w1 := w_V cI cZ v0 v1 v2 v3 v4 v5 v6 v7 v8 v9 v10 v11 v12 v13 v14 v15 v_m_maps v_m_tables v_m_words v_m_blank v_m_queue' v_d_maps v_d_tables v_d_words v_d_blank v_d_queue v_young v_dropped v_leaving v_ren) (wr := w_R cI cZ y0 y1 y2 y3 y4 y5 y6 y7 y8 y9 y10 y11 r_mem r_dsk r_fresh r_young r_dropped r_released r_owed r_counted r_inMemory r_onDisk r_thn r_moved) (wz := (w_V cI cZ v0 v1 v2 v3 v4 v5 v6 v7 v8 v9 v10 v11 v12 v13 v14 v15 v_m_maps v_m_tables v_m_words v_m_blank v_m_queue' v_d_maps v_d_tables v_d_words v_d_blank v_d_queue v_young v_dropped v_leaving v_ren ++ w_R cI cZ y0 y1 y2 y3 y4 y5 y6 y7 y8 y9 y10 y11 r_mem r_dsk r_fresh r_young r_dropped r_released r_owed r_counted r_inMemory r_onDisk r_thn r_moved)) cf ⟨by decide, by decide⟩ hK hN hA (c_V_lookup l D cI cZ v0 v1 v2 v3 v4 v5 v6 v7 v8 v9 v10 v11 v12 v13 v14 v15 F v_m_maps v_m_tables v_m_words v_m_blank v_m_queue v_d_maps v_d_tables v_d_words v_d_blank v_d_queue v_young v_dropped v_leaving v_ren v_m_queue' (xs ((nI (5 * n)) + (nI 1)).toNatClampNeg) (xs ((nI (5 * n)) + (nI 2)).toNatClampNeg) r e1) k_L_45 ⟨rfl, rfl, by decide, by decide⟩ 1 rfl rfl rfl hl hP hD hS [0, 1, 2, 3, 4, 5, 6, 7, 8, 9, 10, 11, 12, 13, 14, 15] [16, 17, 18, 19, 20, 21, 22, 23, 24, 25, 26, 27] [12, 13, 14, 15, 16, 17, 18, 19, 20, 21, 22, 23, 24, 25, 26, 27, 0, 1, 2, 3, 4, 5, 6, 7, 8, 9, 10, 11] rfl rfl rfl (by decide) rfl rfl rfl rfl rfl (Nat.le_of_ble_eq_true rfl) rfl d_L_416 (fun H locs hP hD hS => ?_)
  refine lv_aload_n hx hb d_L_419 rfl (lv_at hl 3 rfl) ?_
  refine lv_aload_n hx hb d_L_420 rfl (lv_at hl 1 rfl) ?_
  refine lv_iload_n hx hb d_L_421 rfl (lv_at hl 0 rfl) ?_
  refine lv_iconst (v := (nI 1)) hx hb d_L_422 (by decide) ?_
  refine lv_iadd hx hb d_L_423 ?_
  refine va_sld hx hb hX hbl hbA hS (by rw [nI_add]; exact vp_in_nI (by omega) (by omega)) d_L_424 ?_
  refine lv_aload_n hx hb d_L_425 rfl (lv_at hl 1 rfl) ?_
  refine lv_iload_n hx hb d_L_426 rfl (lv_at hl 0 rfl) ?_
  refine lv_iconst (v := (nI 2)) hx hb d_L_427 (by decide) ?_
  refine lv_iadd hx hb d_L_428 ?_
  refine va_sld hx hb hX hbl hbA hS (by rw [nI_add]; exact vp_in_nI (by omega) (by omega)) d_L_429 ?_
  refine wk_ViC (As := [.int (xs ((nI (5 * n)) + (nI 1)).toNatClampNeg), .int (xs ((nI (5 * n)) + (nI 2)).toNatClampNeg)]) (rest := [.int r]) (wc := w_R cI cZ y0 y1 y2 y3 y4 y5 y6 y7 y8 y9 y10 y11 r_mem r_dsk r_fresh r_young r_dropped r_released r_owed r_counted r_inMemory r_onDisk r_thn r_moved) (w1 := w_R cI cZ y0 y1 y2 y3 y4 y5 y6 y7 y8 y9 y10 y11 r_mem r_dsk r_fresh r_young r_dropped r_released r_owed r_counted r_inMemory' r_onDisk r_thn r_moved) (wr := w_V cI cZ v0 v1 v2 v3 v4 v5 v6 v7 v8 v9 v10 v11 v12 v13 v14 v15 v_m_maps v_m_tables v_m_words v_m_blank v_m_queue' v_d_maps v_d_tables v_d_words v_d_blank v_d_queue v_young v_dropped v_leaving v_ren) (wz := (w_V cI cZ v0 v1 v2 v3 v4 v5 v6 v7 v8 v9 v10 v11 v12 v13 v14 v15 v_m_maps v_m_tables v_m_words v_m_blank v_m_queue' v_d_maps v_d_tables v_d_words v_d_blank v_d_queue v_young v_dropped v_leaving v_ren ++ w_R cI cZ y0 y1 y2 y3 y4 y5 y6 y7 y8 y9 y10 y11 r_mem r_dsk r_fresh r_young r_dropped r_released r_owed r_counted r_inMemory' r_onDisk r_thn r_moved)) cf ⟨by decide, by decide⟩ hK hN hA (c_R_lookup l D cI cZ y0 y1 y2 y3 y4 y5 y6 y7 y8 y9 y10 y11 F r_mem r_dsk r_fresh r_young r_dropped r_released r_owed r_counted r_inMemory r_onDisk r_thn r_moved r_inMemory' (xs ((nI (5 * n)) + (nI 1)).toNatClampNeg) (xs ((nI (5 * n)) + (nI 2)).toNatClampNeg) r e2) k_L_48 ⟨rfl, rfl, by decide, by decide⟩ 2 rfl rfl rfl hl hP hD hS [16, 17, 18, 19, 20, 21, 22, 23, 24, 25, 26, 27] [0, 1, 2, 3, 4, 5, 6, 7, 8, 9, 10, 11, 12, 13, 14, 15] [0, 1, 2, 3, 4, 5, 6, 7, 8, 9, 10, 11, 12, 13, 14, 15, 16, 17, 18, 19, 20, 21, 22, 23, 24, 25, 26, 27] rfl rfl rfl (by decide) rfl rfl rfl rfl rfl (Nat.le_of_ble_eq_true rfl) rfl d_L_430 (fun H locs hP hD hS => ?_)
  refine lv_icmp_eq hx hb d_L_433 rfl (fun _ => ?_) (fun hc => absurd rfl hc)
  exact kk v_m_maps v_m_tables v_m_words v_m_blank v_m_queue' v_d_maps v_d_tables v_d_words v_d_blank v_d_queue v_young v_dropped v_leaving v_ren r_mem r_dsk r_fresh r_young r_dropped r_released r_owed r_counted r_inMemory' r_onDisk r_thn r_moved H locs ls hR hl hP hD hS
set_option maxHeartbeats 4000000 in
set_option maxRecDepth 100000 in
theorem w_L_flush {p : Program} {l : Launch} {e : Env} {s : State} {m : MethodId} {below : List Frame} {meth : Method} {c : Code} {b L : Nat} {xs : Nat → Int32} {D : va_G} {cI cZ : ClassId} (F : Nat) (Rl : RlT) (hst : St_flush F Rl) (cx : lwC p s m meth c b L xs D cI cZ) (v0 v1 v2 v3 v4 v5 v6 v7 v8 v9 v10 v11 v12 v13 v14 v15 y0 y1 y2 y3 y4 y5 y6 y7 y8 y9 y10 y11 n : Nat) (hL : L ≤ 2560) (hk : 5 * n + 5 ≤ L) (kk : LGo p l e s m below meth c b D cI cZ Rl v0 v1 v2 v3 v4 v5 v6 v7 v8 v9 v10 v11 v12 v13 v14 v15 y0 y1 y2 y3 y4 y5 y6 y7 y8 y9 y10 y11 589 (n + 1) (5 * n)) : LGo p l e s m below meth c b D cI cZ Rl v0 v1 v2 v3 v4 v5 v6 v7 v8 v9 v10 v11 v12 v13 v14 v15 y0 y1 y2 y3 y4 y5 y6 y7 y8 y9 y10 y11 438 n (5 * n) := by
  obtain ⟨cf, hr, hlk, hK, hN, hX, hbl⟩ := cx
  have hx := cf.1
  have hb := cf.2.1
  have hown := cf.2.2.2.1
  have hA : ∀ q : Nat, s.heap.size ≤ q → (fun q => s.heap.size ≤ q) q := fun q h => h
  have hbA : ¬ (fun q => s.heap.size ≤ q) b := Nat.not_le.mpr hbl
  intro v_m_maps v_m_tables v_m_words v_m_blank v_m_queue v_d_maps v_d_tables v_d_words v_d_blank v_d_queue v_young v_dropped v_leaving v_ren r_mem r_dsk r_fresh r_young r_dropped r_released r_owed r_counted r_inMemory r_onDisk r_thn r_moved H locs ls hRl hl hP hD hS
  refine lv_aload_n hx hb d_L_438 rfl (lv_at hl 2 rfl) ?_
  refine lv_aload_n hx hb d_L_439 rfl (lv_at hl 1 rfl) ?_
  refine lv_iload_n hx hb d_L_440 rfl (lv_at hl 0 rfl) ?_
  refine lv_iconst (v := (nI 1)) hx hb d_L_441 (by decide) ?_
  refine lv_iadd hx hb d_L_442 ?_
  refine va_sld hx hb hX hbl hbA hS (by rw [nI_add]; exact vp_in_nI (by omega) (by omega)) d_L_443 ?_
  obtain ⟨r, v_m_maps', v_m_tables', v_m_queue', v_d_maps', v_d_tables', v_d_words', v_d_blank', v_d_queue', v_young', v_dropped', v_leaving', r_young', r_dropped', r_mem', r_dsk', r_fresh', r_released', r_owed', r_counted', r_inMemory', r_onDisk', r_thn', e1, e2, hR⟩ := hst n v_m_maps v_m_tables v_m_words v_m_blank v_m_queue v_d_maps v_d_tables v_d_words v_d_blank v_d_queue v_young v_dropped v_leaving v_ren r_mem r_dsk r_fresh r_young r_dropped r_released r_owed r_counted r_inMemory r_onDisk r_thn r_moved (xs ((nI (5 * n)) + (nI 1)).toNatClampNeg) (by omega) hRl
  refine wk_ViC (As := [.int (xs ((nI (5 * n)) + (nI 1)).toNatClampNeg)]) (rest := []) (wc := w_V cI cZ v0 v1 v2 v3 v4 v5 v6 v7 v8 v9 v10 v11 v12 v13 v14 v15 v_m_maps v_m_tables v_m_words v_m_blank v_m_queue v_d_maps v_d_tables v_d_words v_d_blank v_d_queue v_young v_dropped v_leaving v_ren) (w1 := w_V cI cZ v0 v1 v2 v3 v4 v5 v6 v7 v8 v9 v10 v11 v12 v13 v14 v15 v_m_maps' v_m_tables' v_m_words v_m_blank v_m_queue' v_d_maps' v_d_tables' v_d_words' v_d_blank' v_d_queue' v_young' v_dropped' v_leaving' v_ren) (wr := w_R cI cZ y0 y1 y2 y3 y4 y5 y6 y7 y8 y9 y10 y11 r_mem r_dsk r_fresh r_young r_dropped r_released r_owed r_counted r_inMemory r_onDisk r_thn r_moved) (wz := (w_V cI cZ v0 v1 v2 v3 v4 v5 v6 v7 v8 v9 v10 v11 v12 v13 v14 v15 v_m_maps' v_m_tables' v_m_words v_m_blank v_m_queue' v_d_maps' v_d_tables' v_d_words' v_d_blank' v_d_queue' v_young' v_dropped' v_leaving' v_ren ++ w_R cI cZ y0 y1 y2 y3 y4 y5 y6 y7 y8 y9 y10 y11 r_mem r_dsk r_fresh r_young r_dropped r_released r_owed r_counted r_inMemory r_onDisk r_thn r_moved)) cf ⟨by decide, by decide⟩ hK hN hA (c_V_flush l D cI cZ v0 v1 v2 v3 v4 v5 v6 v7 v8 v9 v10 v11 v12 v13 v14 v15 F v_m_maps v_m_tables v_m_words v_m_blank v_m_queue v_d_maps v_d_tables v_d_words v_d_blank v_d_queue v_young v_dropped v_leaving v_ren v_m_maps' v_m_tables' v_m_queue' v_d_maps' v_d_tables' v_d_words' v_d_blank' v_d_queue' v_young' v_dropped' v_leaving' (xs ((nI (5 * n)) + (nI 1)).toNatClampNeg) r e1) k_L_49 ⟨rfl, rfl, by decide, by decide⟩ 1 rfl rfl rfl hl hP hD hS [0, 1, 2, 3, 4, 5, 6, 7, 8, 9, 10, 11, 12, 13, 14, 15] [16, 17, 18, 19, 20, 21, 22, 23, 24, 25, 26, 27] [12, 13, 14, 15, 16, 17, 18, 19, 20, 21, 22, 23, 24, 25, 26, 27, 0, 1, 2, 3, 4, 5, 6, 7, 8, 9, 10, 11] rfl rfl rfl (by decide) rfl rfl rfl rfl rfl (Nat.le_of_ble_eq_true rfl) rfl d_L_444 (fun H locs hP hD hS => ?_)
  refine lv_aload_n hx hb d_L_447 rfl (lv_at hl 3 rfl) ?_
  refine lv_aload_n hx hb d_L_448 rfl (lv_at hl 1 rfl) ?_
  refine lv_iload_n hx hb d_L_449 rfl (lv_at hl 0 rfl) ?_
  refine lv_iconst (v := (nI 1)) hx hb d_L_450 (by decide) ?_
  refine lv_iadd hx hb d_L_451 ?_
  refine va_sld hx hb hX hbl hbA hS (by rw [nI_add]; exact vp_in_nI (by omega) (by omega)) d_L_452 ?_
  refine wk_ViC (As := [.int (xs ((nI (5 * n)) + (nI 1)).toNatClampNeg)]) (rest := [.int r]) (wc := w_R cI cZ y0 y1 y2 y3 y4 y5 y6 y7 y8 y9 y10 y11 r_mem r_dsk r_fresh r_young r_dropped r_released r_owed r_counted r_inMemory r_onDisk r_thn r_moved) (w1 := w_R cI cZ y0 y1 y2 y3 y4 y5 y6 y7 y8 y9 y10 y11 r_mem' r_dsk' r_fresh' r_young' r_dropped' r_released' r_owed' r_counted' r_inMemory' r_onDisk' r_thn' r_moved) (wr := w_V cI cZ v0 v1 v2 v3 v4 v5 v6 v7 v8 v9 v10 v11 v12 v13 v14 v15 v_m_maps' v_m_tables' v_m_words v_m_blank v_m_queue' v_d_maps' v_d_tables' v_d_words' v_d_blank' v_d_queue' v_young' v_dropped' v_leaving' v_ren) (wz := (w_V cI cZ v0 v1 v2 v3 v4 v5 v6 v7 v8 v9 v10 v11 v12 v13 v14 v15 v_m_maps' v_m_tables' v_m_words v_m_blank v_m_queue' v_d_maps' v_d_tables' v_d_words' v_d_blank' v_d_queue' v_young' v_dropped' v_leaving' v_ren ++ w_R cI cZ y0 y1 y2 y3 y4 y5 y6 y7 y8 y9 y10 y11 r_mem' r_dsk' r_fresh' r_young' r_dropped' r_released' r_owed' r_counted' r_inMemory' r_onDisk' r_thn' r_moved)) cf ⟨by decide, by decide⟩ hK hN hA (c_R_flush l D cI cZ y0 y1 y2 y3 y4 y5 y6 y7 y8 y9 y10 y11 F r_mem r_dsk r_fresh r_young r_dropped r_released r_owed r_counted r_inMemory r_onDisk r_thn r_moved r_young' r_dropped' r_mem' r_dsk' r_fresh' r_released' r_owed' r_counted' r_inMemory' r_onDisk' r_thn' (xs ((nI (5 * n)) + (nI 1)).toNatClampNeg) r e2) k_L_53 ⟨rfl, rfl, by decide, by decide⟩ 2 rfl rfl rfl hl hP hD hS [16, 17, 18, 19, 20, 21, 22, 23, 24, 25, 26, 27] [0, 1, 2, 3, 4, 5, 6, 7, 8, 9, 10, 11, 12, 13, 14, 15] [0, 1, 2, 3, 4, 5, 6, 7, 8, 9, 10, 11, 12, 13, 14, 15, 16, 17, 18, 19, 20, 21, 22, 23, 24, 25, 26, 27] rfl rfl rfl (by decide) rfl rfl rfl rfl rfl (Nat.le_of_ble_eq_true rfl) rfl d_L_453 (fun H locs hP hD hS => ?_)
  refine lv_icmp_eq hx hb d_L_456 rfl (fun _ => ?_) (fun hc => absurd rfl hc)
  exact kk v_m_maps' v_m_tables' v_m_words v_m_blank v_m_queue' v_d_maps' v_d_tables' v_d_words' v_d_blank' v_d_queue' v_young' v_dropped' v_leaving' v_ren r_mem' r_dsk' r_fresh' r_young' r_dropped' r_released' r_owed' r_counted' r_inMemory' r_onDisk' r_thn' r_moved H locs ls hR hl hP hD hS
set_option maxHeartbeats 4000000 in
set_option maxRecDepth 100000 in
theorem w_L_sync {p : Program} {l : Launch} {e : Env} {s : State} {m : MethodId} {below : List Frame} {meth : Method} {c : Code} {b L : Nat} {xs : Nat → Int32} {D : va_G} {cI cZ : ClassId} (F : Nat) (Rl : RlT) (hst : St_sync F Rl) (cx : lwC p s m meth c b L xs D cI cZ) (v0 v1 v2 v3 v4 v5 v6 v7 v8 v9 v10 v11 v12 v13 v14 v15 y0 y1 y2 y3 y4 y5 y6 y7 y8 y9 y10 y11 n : Nat) (hL : L ≤ 2560) (hk : 5 * n + 5 ≤ L) (kk : LGo p l e s m below meth c b D cI cZ Rl v0 v1 v2 v3 v4 v5 v6 v7 v8 v9 v10 v11 v12 v13 v14 v15 y0 y1 y2 y3 y4 y5 y6 y7 y8 y9 y10 y11 589 (n + 1) (5 * n)) : LGo p l e s m below meth c b D cI cZ Rl v0 v1 v2 v3 v4 v5 v6 v7 v8 v9 v10 v11 v12 v13 v14 v15 y0 y1 y2 y3 y4 y5 y6 y7 y8 y9 y10 y11 461 n (5 * n) := by
  obtain ⟨cf, hr, hlk, hK, hN, hX, hbl⟩ := cx
  have hx := cf.1
  have hb := cf.2.1
  have hown := cf.2.2.2.1
  have hA : ∀ q : Nat, s.heap.size ≤ q → (fun q => s.heap.size ≤ q) q := fun q h => h
  have hbA : ¬ (fun q => s.heap.size ≤ q) b := Nat.not_le.mpr hbl
  intro v_m_maps v_m_tables v_m_words v_m_blank v_m_queue v_d_maps v_d_tables v_d_words v_d_blank v_d_queue v_young v_dropped v_leaving v_ren r_mem r_dsk r_fresh r_young r_dropped r_released r_owed r_counted r_inMemory r_onDisk r_thn r_moved H locs ls hRl hl hP hD hS
  refine lv_aload_n hx hb d_L_461 rfl (lv_at hl 2 rfl) ?_
  obtain ⟨r, v_m_maps', v_m_tables', v_m_queue', v_d_maps', v_d_tables', v_d_words', v_d_blank', v_d_queue', v_young', v_dropped', v_leaving', v_ren', r_young', r_dropped', r_mem', r_dsk', r_fresh', r_released', r_owed', r_counted', r_inMemory', r_onDisk', r_thn', r_moved', e1, e2, hR⟩ := hst n v_m_maps v_m_tables v_m_words v_m_blank v_m_queue v_d_maps v_d_tables v_d_words v_d_blank v_d_queue v_young v_dropped v_leaving v_ren r_mem r_dsk r_fresh r_young r_dropped r_released r_owed r_counted r_inMemory r_onDisk r_thn r_moved  (by omega) hRl
  refine wk_ViC (As := []) (rest := []) (wc := w_V cI cZ v0 v1 v2 v3 v4 v5 v6 v7 v8 v9 v10 v11 v12 v13 v14 v15 v_m_maps v_m_tables v_m_words v_m_blank v_m_queue v_d_maps v_d_tables v_d_words v_d_blank v_d_queue v_young v_dropped v_leaving v_ren) (w1 := w_V cI cZ v0 v1 v2 v3 v4 v5 v6 v7 v8 v9 v10 v11 v12 v13 v14 v15 v_m_maps' v_m_tables' v_m_words v_m_blank v_m_queue' v_d_maps' v_d_tables' v_d_words' v_d_blank' v_d_queue' v_young' v_dropped' v_leaving' v_ren') (wr := w_R cI cZ y0 y1 y2 y3 y4 y5 y6 y7 y8 y9 y10 y11 r_mem r_dsk r_fresh r_young r_dropped r_released r_owed r_counted r_inMemory r_onDisk r_thn r_moved) (wz := (w_V cI cZ v0 v1 v2 v3 v4 v5 v6 v7 v8 v9 v10 v11 v12 v13 v14 v15 v_m_maps' v_m_tables' v_m_words v_m_blank v_m_queue' v_d_maps' v_d_tables' v_d_words' v_d_blank' v_d_queue' v_young' v_dropped' v_leaving' v_ren' ++ w_R cI cZ y0 y1 y2 y3 y4 y5 y6 y7 y8 y9 y10 y11 r_mem r_dsk r_fresh r_young r_dropped r_released r_owed r_counted r_inMemory r_onDisk r_thn r_moved)) cf ⟨by decide, by decide⟩ hK hN hA (c_V_sync l D cI cZ v0 v1 v2 v3 v4 v5 v6 v7 v8 v9 v10 v11 v12 v13 v14 v15 F v_m_maps v_m_tables v_m_words v_m_blank v_m_queue v_d_maps v_d_tables v_d_words v_d_blank v_d_queue v_young v_dropped v_leaving v_ren v_m_maps' v_m_tables' v_m_queue' v_d_maps' v_d_tables' v_d_words' v_d_blank' v_d_queue' v_young' v_dropped' v_leaving' v_ren' r e1) k_L_54 ⟨rfl, rfl, by decide, by decide⟩ 1 rfl rfl rfl hl hP hD hS [0, 1, 2, 3, 4, 5, 6, 7, 8, 9, 10, 11, 12, 13, 14, 15] [16, 17, 18, 19, 20, 21, 22, 23, 24, 25, 26, 27] [12, 13, 14, 15, 16, 17, 18, 19, 20, 21, 22, 23, 24, 25, 26, 27, 0, 1, 2, 3, 4, 5, 6, 7, 8, 9, 10, 11] rfl rfl rfl (by decide) rfl rfl rfl rfl rfl (Nat.le_of_ble_eq_true rfl) rfl d_L_462 (fun H locs hP hD hS => ?_)
  refine lv_aload_n hx hb d_L_465 rfl (lv_at hl 3 rfl) ?_
  refine wk_ViC (As := []) (rest := [.int r]) (wc := w_R cI cZ y0 y1 y2 y3 y4 y5 y6 y7 y8 y9 y10 y11 r_mem r_dsk r_fresh r_young r_dropped r_released r_owed r_counted r_inMemory r_onDisk r_thn r_moved) (w1 := w_R cI cZ y0 y1 y2 y3 y4 y5 y6 y7 y8 y9 y10 y11 r_mem' r_dsk' r_fresh' r_young' r_dropped' r_released' r_owed' r_counted' r_inMemory' r_onDisk' r_thn' r_moved') (wr := w_V cI cZ v0 v1 v2 v3 v4 v5 v6 v7 v8 v9 v10 v11 v12 v13 v14 v15 v_m_maps' v_m_tables' v_m_words v_m_blank v_m_queue' v_d_maps' v_d_tables' v_d_words' v_d_blank' v_d_queue' v_young' v_dropped' v_leaving' v_ren') (wz := (w_V cI cZ v0 v1 v2 v3 v4 v5 v6 v7 v8 v9 v10 v11 v12 v13 v14 v15 v_m_maps' v_m_tables' v_m_words v_m_blank v_m_queue' v_d_maps' v_d_tables' v_d_words' v_d_blank' v_d_queue' v_young' v_dropped' v_leaving' v_ren' ++ w_R cI cZ y0 y1 y2 y3 y4 y5 y6 y7 y8 y9 y10 y11 r_mem' r_dsk' r_fresh' r_young' r_dropped' r_released' r_owed' r_counted' r_inMemory' r_onDisk' r_thn' r_moved')) cf ⟨by decide, by decide⟩ hK hN hA (c_R_sync l D cI cZ y0 y1 y2 y3 y4 y5 y6 y7 y8 y9 y10 y11 F r_mem r_dsk r_fresh r_young r_dropped r_released r_owed r_counted r_inMemory r_onDisk r_thn r_moved r_young' r_dropped' r_mem' r_dsk' r_fresh' r_released' r_owed' r_counted' r_inMemory' r_onDisk' r_thn' r_moved' r e2) k_L_58 ⟨rfl, rfl, by decide, by decide⟩ 2 rfl rfl rfl hl hP hD hS [16, 17, 18, 19, 20, 21, 22, 23, 24, 25, 26, 27] [0, 1, 2, 3, 4, 5, 6, 7, 8, 9, 10, 11, 12, 13, 14, 15] [0, 1, 2, 3, 4, 5, 6, 7, 8, 9, 10, 11, 12, 13, 14, 15, 16, 17, 18, 19, 20, 21, 22, 23, 24, 25, 26, 27] rfl rfl rfl (by decide) rfl rfl rfl rfl rfl (Nat.le_of_ble_eq_true rfl) rfl d_L_466 (fun H locs hP hD hS => ?_)
  refine lv_icmp_eq hx hb d_L_469 rfl (fun _ => ?_) (fun hc => absurd rfl hc)
  exact kk v_m_maps' v_m_tables' v_m_words v_m_blank v_m_queue' v_d_maps' v_d_tables' v_d_words' v_d_blank' v_d_queue' v_young' v_dropped' v_leaving' v_ren' r_mem' r_dsk' r_fresh' r_young' r_dropped' r_released' r_owed' r_counted' r_inMemory' r_onDisk' r_thn' r_moved' H locs ls hR hl hP hD hS
set_option maxHeartbeats 4000000 in
set_option maxRecDepth 100000 in
theorem w_L_crash {p : Program} {l : Launch} {e : Env} {s : State} {m : MethodId} {below : List Frame} {meth : Method} {c : Code} {b L : Nat} {xs : Nat → Int32} {D : va_G} {cI cZ : ClassId} (F : Nat) (Rl : RlT) (hst : St_crash F Rl) (cx : lwC p s m meth c b L xs D cI cZ) (v0 v1 v2 v3 v4 v5 v6 v7 v8 v9 v10 v11 v12 v13 v14 v15 y0 y1 y2 y3 y4 y5 y6 y7 y8 y9 y10 y11 n : Nat) (hL : L ≤ 2560) (hk : 5 * n + 5 ≤ L) (kk : LGo p l e s m below meth c b D cI cZ Rl v0 v1 v2 v3 v4 v5 v6 v7 v8 v9 v10 v11 v12 v13 v14 v15 y0 y1 y2 y3 y4 y5 y6 y7 y8 y9 y10 y11 589 (n + 1) (5 * n)) : LGo p l e s m below meth c b D cI cZ Rl v0 v1 v2 v3 v4 v5 v6 v7 v8 v9 v10 v11 v12 v13 v14 v15 y0 y1 y2 y3 y4 y5 y6 y7 y8 y9 y10 y11 474 n (5 * n) := by
  obtain ⟨cf, hr, hlk, hK, hN, hX, hbl⟩ := cx
  have hx := cf.1
  have hb := cf.2.1
  have hown := cf.2.2.2.1
  have hA : ∀ q : Nat, s.heap.size ≤ q → (fun q => s.heap.size ≤ q) q := fun q h => h
  have hbA : ¬ (fun q => s.heap.size ≤ q) b := Nat.not_le.mpr hbl
  intro v_m_maps v_m_tables v_m_words v_m_blank v_m_queue v_d_maps v_d_tables v_d_words v_d_blank v_d_queue v_young v_dropped v_leaving v_ren r_mem r_dsk r_fresh r_young r_dropped r_released r_owed r_counted r_inMemory r_onDisk r_thn r_moved H locs ls hRl hl hP hD hS
  refine lv_aload_n hx hb d_L_474 rfl (lv_at hl 2 rfl) ?_
  obtain ⟨r, v_m_maps', v_m_tables', v_m_words', v_d_blank', v_young', v_dropped', v_leaving', r_young', r_dropped', r_mem', r_fresh', r_released', r_owed', e1, e2, hR⟩ := hst n v_m_maps v_m_tables v_m_words v_m_blank v_m_queue v_d_maps v_d_tables v_d_words v_d_blank v_d_queue v_young v_dropped v_leaving v_ren r_mem r_dsk r_fresh r_young r_dropped r_released r_owed r_counted r_inMemory r_onDisk r_thn r_moved  (by omega) hRl
  refine wk_ViC (As := []) (rest := []) (wc := w_V cI cZ v0 v1 v2 v3 v4 v5 v6 v7 v8 v9 v10 v11 v12 v13 v14 v15 v_m_maps v_m_tables v_m_words v_m_blank v_m_queue v_d_maps v_d_tables v_d_words v_d_blank v_d_queue v_young v_dropped v_leaving v_ren) (w1 := w_V cI cZ v0 v1 v2 v3 v4 v5 v6 v7 v8 v9 v10 v11 v12 v13 v14 v15 v_m_maps' v_m_tables' v_m_words' v_m_blank v_m_queue v_d_maps v_d_tables v_d_words v_d_blank' v_d_queue v_young' v_dropped' v_leaving' v_ren) (wr := w_R cI cZ y0 y1 y2 y3 y4 y5 y6 y7 y8 y9 y10 y11 r_mem r_dsk r_fresh r_young r_dropped r_released r_owed r_counted r_inMemory r_onDisk r_thn r_moved) (wz := (w_V cI cZ v0 v1 v2 v3 v4 v5 v6 v7 v8 v9 v10 v11 v12 v13 v14 v15 v_m_maps' v_m_tables' v_m_words' v_m_blank v_m_queue v_d_maps v_d_tables v_d_words v_d_blank' v_d_queue v_young' v_dropped' v_leaving' v_ren ++ w_R cI cZ y0 y1 y2 y3 y4 y5 y6 y7 y8 y9 y10 y11 r_mem r_dsk r_fresh r_young r_dropped r_released r_owed r_counted r_inMemory r_onDisk r_thn r_moved)) cf ⟨by decide, by decide⟩ hK hN hA (c_V_crash l D cI cZ v0 v1 v2 v3 v4 v5 v6 v7 v8 v9 v10 v11 v12 v13 v14 v15 F v_m_maps v_m_tables v_m_words v_m_blank v_m_queue v_d_maps v_d_tables v_d_words v_d_blank v_d_queue v_young v_dropped v_leaving v_ren v_m_maps' v_m_tables' v_m_words' v_d_blank' v_young' v_dropped' v_leaving' r e1) k_L_59 ⟨rfl, rfl, by decide, by decide⟩ 1 rfl rfl rfl hl hP hD hS [0, 1, 2, 3, 4, 5, 6, 7, 8, 9, 10, 11, 12, 13, 14, 15] [16, 17, 18, 19, 20, 21, 22, 23, 24, 25, 26, 27] [12, 13, 14, 15, 16, 17, 18, 19, 20, 21, 22, 23, 24, 25, 26, 27, 0, 1, 2, 3, 4, 5, 6, 7, 8, 9, 10, 11] rfl rfl rfl (by decide) rfl rfl rfl rfl rfl (Nat.le_of_ble_eq_true rfl) rfl d_L_475 (fun H locs hP hD hS => ?_)
  refine lv_aload_n hx hb d_L_478 rfl (lv_at hl 3 rfl) ?_
  refine wk_ViC (As := []) (rest := [.int r]) (wc := w_R cI cZ y0 y1 y2 y3 y4 y5 y6 y7 y8 y9 y10 y11 r_mem r_dsk r_fresh r_young r_dropped r_released r_owed r_counted r_inMemory r_onDisk r_thn r_moved) (w1 := w_R cI cZ y0 y1 y2 y3 y4 y5 y6 y7 y8 y9 y10 y11 r_mem' r_dsk r_fresh' r_young' r_dropped' r_released' r_owed' r_counted r_inMemory r_onDisk r_thn r_moved) (wr := w_V cI cZ v0 v1 v2 v3 v4 v5 v6 v7 v8 v9 v10 v11 v12 v13 v14 v15 v_m_maps' v_m_tables' v_m_words' v_m_blank v_m_queue v_d_maps v_d_tables v_d_words v_d_blank' v_d_queue v_young' v_dropped' v_leaving' v_ren) (wz := (w_V cI cZ v0 v1 v2 v3 v4 v5 v6 v7 v8 v9 v10 v11 v12 v13 v14 v15 v_m_maps' v_m_tables' v_m_words' v_m_blank v_m_queue v_d_maps v_d_tables v_d_words v_d_blank' v_d_queue v_young' v_dropped' v_leaving' v_ren ++ w_R cI cZ y0 y1 y2 y3 y4 y5 y6 y7 y8 y9 y10 y11 r_mem' r_dsk r_fresh' r_young' r_dropped' r_released' r_owed' r_counted r_inMemory r_onDisk r_thn r_moved)) cf ⟨by decide, by decide⟩ hK hN hA (c_R_crash l D cI cZ y0 y1 y2 y3 y4 y5 y6 y7 y8 y9 y10 y11 F r_mem r_dsk r_fresh r_young r_dropped r_released r_owed r_counted r_inMemory r_onDisk r_thn r_moved r_young' r_dropped' r_mem' r_fresh' r_released' r_owed' r e2) k_L_63 ⟨rfl, rfl, by decide, by decide⟩ 2 rfl rfl rfl hl hP hD hS [16, 17, 18, 19, 20, 21, 22, 23, 24, 25, 26, 27] [0, 1, 2, 3, 4, 5, 6, 7, 8, 9, 10, 11, 12, 13, 14, 15] [0, 1, 2, 3, 4, 5, 6, 7, 8, 9, 10, 11, 12, 13, 14, 15, 16, 17, 18, 19, 20, 21, 22, 23, 24, 25, 26, 27] rfl rfl rfl (by decide) rfl rfl rfl rfl rfl (Nat.le_of_ble_eq_true rfl) rfl d_L_479 (fun H locs hP hD hS => ?_)
  refine lv_icmp_eq hx hb d_L_482 rfl (fun _ => ?_) (fun hc => absurd rfl hc)
  exact kk v_m_maps' v_m_tables' v_m_words' v_m_blank v_m_queue v_d_maps v_d_tables v_d_words v_d_blank' v_d_queue v_young' v_dropped' v_leaving' v_ren r_mem' r_dsk r_fresh' r_young' r_dropped' r_released' r_owed' r_counted r_inMemory r_onDisk r_thn r_moved H locs ls hR hl hP hD hS
set_option maxHeartbeats 4000000 in
set_option maxRecDepth 100000 in
theorem w_L_reclaim {p : Program} {l : Launch} {e : Env} {s : State} {m : MethodId} {below : List Frame} {meth : Method} {c : Code} {b L : Nat} {xs : Nat → Int32} {D : va_G} {cI cZ : ClassId} (F : Nat) (Rl : RlT) (hst : St_reclaim F Rl) (cx : lwC p s m meth c b L xs D cI cZ) (v0 v1 v2 v3 v4 v5 v6 v7 v8 v9 v10 v11 v12 v13 v14 v15 y0 y1 y2 y3 y4 y5 y6 y7 y8 y9 y10 y11 n : Nat) (hL : L ≤ 2560) (hk : 5 * n + 5 ≤ L) (kk : LGo p l e s m below meth c b D cI cZ Rl v0 v1 v2 v3 v4 v5 v6 v7 v8 v9 v10 v11 v12 v13 v14 v15 y0 y1 y2 y3 y4 y5 y6 y7 y8 y9 y10 y11 589 (n + 1) (5 * n)) : LGo p l e s m below meth c b D cI cZ Rl v0 v1 v2 v3 v4 v5 v6 v7 v8 v9 v10 v11 v12 v13 v14 v15 y0 y1 y2 y3 y4 y5 y6 y7 y8 y9 y10 y11 487 n (5 * n) := by
  obtain ⟨cf, hr, hlk, hK, hN, hX, hbl⟩ := cx
  have hx := cf.1
  have hb := cf.2.1
  have hown := cf.2.2.2.1
  have hA : ∀ q : Nat, s.heap.size ≤ q → (fun q => s.heap.size ≤ q) q := fun q h => h
  have hbA : ¬ (fun q => s.heap.size ≤ q) b := Nat.not_le.mpr hbl
  intro v_m_maps v_m_tables v_m_words v_m_blank v_m_queue v_d_maps v_d_tables v_d_words v_d_blank v_d_queue v_young v_dropped v_leaving v_ren r_mem r_dsk r_fresh r_young r_dropped r_released r_owed r_counted r_inMemory r_onDisk r_thn r_moved H locs ls hRl hl hP hD hS
  refine lv_aload_n hx hb d_L_487 rfl (lv_at hl 2 rfl) ?_
  obtain ⟨r, v_m_maps', v_m_tables', v_m_queue', v_d_maps', v_d_tables', v_d_words', v_d_blank', v_d_queue', v_young', v_dropped', v_leaving', v_ren', r_young', r_dropped', r_mem', r_dsk', r_fresh', r_released', r_owed', r_counted', r_inMemory', r_onDisk', r_thn', r_moved', e1, e2, hR⟩ := hst n v_m_maps v_m_tables v_m_words v_m_blank v_m_queue v_d_maps v_d_tables v_d_words v_d_blank v_d_queue v_young v_dropped v_leaving v_ren r_mem r_dsk r_fresh r_young r_dropped r_released r_owed r_counted r_inMemory r_onDisk r_thn r_moved  (by omega) hRl
  refine wk_ViC (As := []) (rest := []) (wc := w_V cI cZ v0 v1 v2 v3 v4 v5 v6 v7 v8 v9 v10 v11 v12 v13 v14 v15 v_m_maps v_m_tables v_m_words v_m_blank v_m_queue v_d_maps v_d_tables v_d_words v_d_blank v_d_queue v_young v_dropped v_leaving v_ren) (w1 := w_V cI cZ v0 v1 v2 v3 v4 v5 v6 v7 v8 v9 v10 v11 v12 v13 v14 v15 v_m_maps' v_m_tables' v_m_words v_m_blank v_m_queue' v_d_maps' v_d_tables' v_d_words' v_d_blank' v_d_queue' v_young' v_dropped' v_leaving' v_ren') (wr := w_R cI cZ y0 y1 y2 y3 y4 y5 y6 y7 y8 y9 y10 y11 r_mem r_dsk r_fresh r_young r_dropped r_released r_owed r_counted r_inMemory r_onDisk r_thn r_moved) (wz := (w_V cI cZ v0 v1 v2 v3 v4 v5 v6 v7 v8 v9 v10 v11 v12 v13 v14 v15 v_m_maps' v_m_tables' v_m_words v_m_blank v_m_queue' v_d_maps' v_d_tables' v_d_words' v_d_blank' v_d_queue' v_young' v_dropped' v_leaving' v_ren' ++ w_R cI cZ y0 y1 y2 y3 y4 y5 y6 y7 y8 y9 y10 y11 r_mem r_dsk r_fresh r_young r_dropped r_released r_owed r_counted r_inMemory r_onDisk r_thn r_moved)) cf ⟨by decide, by decide⟩ hK hN hA (c_V_reclaim l D cI cZ v0 v1 v2 v3 v4 v5 v6 v7 v8 v9 v10 v11 v12 v13 v14 v15 F v_m_maps v_m_tables v_m_words v_m_blank v_m_queue v_d_maps v_d_tables v_d_words v_d_blank v_d_queue v_young v_dropped v_leaving v_ren v_m_maps' v_m_tables' v_m_queue' v_d_maps' v_d_tables' v_d_words' v_d_blank' v_d_queue' v_young' v_dropped' v_leaving' v_ren' r e1) k_L_64 ⟨rfl, rfl, by decide, by decide⟩ 1 rfl rfl rfl hl hP hD hS [0, 1, 2, 3, 4, 5, 6, 7, 8, 9, 10, 11, 12, 13, 14, 15] [16, 17, 18, 19, 20, 21, 22, 23, 24, 25, 26, 27] [12, 13, 14, 15, 16, 17, 18, 19, 20, 21, 22, 23, 24, 25, 26, 27, 0, 1, 2, 3, 4, 5, 6, 7, 8, 9, 10, 11] rfl rfl rfl (by decide) rfl rfl rfl rfl rfl (Nat.le_of_ble_eq_true rfl) rfl d_L_488 (fun H locs hP hD hS => ?_)
  refine lv_aload_n hx hb d_L_491 rfl (lv_at hl 3 rfl) ?_
  refine wk_ViC (As := []) (rest := [.int r]) (wc := w_R cI cZ y0 y1 y2 y3 y4 y5 y6 y7 y8 y9 y10 y11 r_mem r_dsk r_fresh r_young r_dropped r_released r_owed r_counted r_inMemory r_onDisk r_thn r_moved) (w1 := w_R cI cZ y0 y1 y2 y3 y4 y5 y6 y7 y8 y9 y10 y11 r_mem' r_dsk' r_fresh' r_young' r_dropped' r_released' r_owed' r_counted' r_inMemory' r_onDisk' r_thn' r_moved') (wr := w_V cI cZ v0 v1 v2 v3 v4 v5 v6 v7 v8 v9 v10 v11 v12 v13 v14 v15 v_m_maps' v_m_tables' v_m_words v_m_blank v_m_queue' v_d_maps' v_d_tables' v_d_words' v_d_blank' v_d_queue' v_young' v_dropped' v_leaving' v_ren') (wz := (w_V cI cZ v0 v1 v2 v3 v4 v5 v6 v7 v8 v9 v10 v11 v12 v13 v14 v15 v_m_maps' v_m_tables' v_m_words v_m_blank v_m_queue' v_d_maps' v_d_tables' v_d_words' v_d_blank' v_d_queue' v_young' v_dropped' v_leaving' v_ren' ++ w_R cI cZ y0 y1 y2 y3 y4 y5 y6 y7 y8 y9 y10 y11 r_mem' r_dsk' r_fresh' r_young' r_dropped' r_released' r_owed' r_counted' r_inMemory' r_onDisk' r_thn' r_moved')) cf ⟨by decide, by decide⟩ hK hN hA (c_R_reclaim l D cI cZ y0 y1 y2 y3 y4 y5 y6 y7 y8 y9 y10 y11 F r_mem r_dsk r_fresh r_young r_dropped r_released r_owed r_counted r_inMemory r_onDisk r_thn r_moved r_young' r_dropped' r_mem' r_dsk' r_fresh' r_released' r_owed' r_counted' r_inMemory' r_onDisk' r_thn' r_moved' r e2) k_L_67 ⟨rfl, rfl, by decide, by decide⟩ 2 rfl rfl rfl hl hP hD hS [16, 17, 18, 19, 20, 21, 22, 23, 24, 25, 26, 27] [0, 1, 2, 3, 4, 5, 6, 7, 8, 9, 10, 11, 12, 13, 14, 15] [0, 1, 2, 3, 4, 5, 6, 7, 8, 9, 10, 11, 12, 13, 14, 15, 16, 17, 18, 19, 20, 21, 22, 23, 24, 25, 26, 27] rfl rfl rfl (by decide) rfl rfl rfl rfl rfl (Nat.le_of_ble_eq_true rfl) rfl d_L_492 (fun H locs hP hD hS => ?_)
  refine lv_icmp_eq hx hb d_L_495 rfl (fun _ => ?_) (fun hc => absurd rfl hc)
  exact kk v_m_maps' v_m_tables' v_m_words v_m_blank v_m_queue' v_d_maps' v_d_tables' v_d_words' v_d_blank' v_d_queue' v_young' v_dropped' v_leaving' v_ren' r_mem' r_dsk' r_fresh' r_young' r_dropped' r_released' r_owed' r_counted' r_inMemory' r_onDisk' r_thn' r_moved' H locs ls hR hl hP hD hS
set_option maxHeartbeats 4000000 in
set_option maxRecDepth 100000 in
theorem w_L_defects {p : Program} {l : Launch} {e : Env} {s : State} {m : MethodId} {below : List Frame} {meth : Method} {c : Code} {b L : Nat} {xs : Nat → Int32} {D : va_G} {cI cZ : ClassId} (F : Nat) (Rl : RlT) (hst : St_defects F Rl) (cx : lwC p s m meth c b L xs D cI cZ) (v0 v1 v2 v3 v4 v5 v6 v7 v8 v9 v10 v11 v12 v13 v14 v15 y0 y1 y2 y3 y4 y5 y6 y7 y8 y9 y10 y11 n : Nat) (hL : L ≤ 2560) (hk : 5 * n + 5 ≤ L) (kk : LGo p l e s m below meth c b D cI cZ Rl v0 v1 v2 v3 v4 v5 v6 v7 v8 v9 v10 v11 v12 v13 v14 v15 y0 y1 y2 y3 y4 y5 y6 y7 y8 y9 y10 y11 589 (n + 1) (5 * n)) : LGo p l e s m below meth c b D cI cZ Rl v0 v1 v2 v3 v4 v5 v6 v7 v8 v9 v10 v11 v12 v13 v14 v15 y0 y1 y2 y3 y4 y5 y6 y7 y8 y9 y10 y11 500 n (5 * n) := by
  obtain ⟨cf, hr, hlk, hK, hN, hX, hbl⟩ := cx
  have hx := cf.1
  have hb := cf.2.1
  have hown := cf.2.2.2.1
  have hA : ∀ q : Nat, s.heap.size ≤ q → (fun q => s.heap.size ≤ q) q := fun q h => h
  have hbA : ¬ (fun q => s.heap.size ≤ q) b := Nat.not_le.mpr hbl
  intro v_m_maps v_m_tables v_m_words v_m_blank v_m_queue v_d_maps v_d_tables v_d_words v_d_blank v_d_queue v_young v_dropped v_leaving v_ren r_mem r_dsk r_fresh r_young r_dropped r_released r_owed r_counted r_inMemory r_onDisk r_thn r_moved H locs ls hRl hl hP hD hS
  refine lv_aload_n hx hb d_L_500 rfl (lv_at hl 2 rfl) ?_
  refine lv_aload_n hx hb d_L_501 rfl (lv_at hl 1 rfl) ?_
  refine lv_iload_n hx hb d_L_502 rfl (lv_at hl 0 rfl) ?_
  refine lv_iconst (v := (nI 1)) hx hb d_L_503 (by decide) ?_
  refine lv_iadd hx hb d_L_504 ?_
  refine va_sld hx hb hX hbl hbA hS (by rw [nI_add]; exact vp_in_nI (by omega) (by omega)) d_L_505 ?_
  obtain ⟨r, v_d_queue', r_onDisk', e1, e2, hR⟩ := hst n v_m_maps v_m_tables v_m_words v_m_blank v_m_queue v_d_maps v_d_tables v_d_words v_d_blank v_d_queue v_young v_dropped v_leaving v_ren r_mem r_dsk r_fresh r_young r_dropped r_released r_owed r_counted r_inMemory r_onDisk r_thn r_moved (xs ((nI (5 * n)) + (nI 1)).toNatClampNeg) (by omega) hRl
  refine wk_ViC (As := [.int (xs ((nI (5 * n)) + (nI 1)).toNatClampNeg)]) (rest := []) (wc := w_V cI cZ v0 v1 v2 v3 v4 v5 v6 v7 v8 v9 v10 v11 v12 v13 v14 v15 v_m_maps v_m_tables v_m_words v_m_blank v_m_queue v_d_maps v_d_tables v_d_words v_d_blank v_d_queue v_young v_dropped v_leaving v_ren) (w1 := w_V cI cZ v0 v1 v2 v3 v4 v5 v6 v7 v8 v9 v10 v11 v12 v13 v14 v15 v_m_maps v_m_tables v_m_words v_m_blank v_m_queue v_d_maps v_d_tables v_d_words v_d_blank v_d_queue' v_young v_dropped v_leaving v_ren) (wr := w_R cI cZ y0 y1 y2 y3 y4 y5 y6 y7 y8 y9 y10 y11 r_mem r_dsk r_fresh r_young r_dropped r_released r_owed r_counted r_inMemory r_onDisk r_thn r_moved) (wz := (w_V cI cZ v0 v1 v2 v3 v4 v5 v6 v7 v8 v9 v10 v11 v12 v13 v14 v15 v_m_maps v_m_tables v_m_words v_m_blank v_m_queue v_d_maps v_d_tables v_d_words v_d_blank v_d_queue' v_young v_dropped v_leaving v_ren ++ w_R cI cZ y0 y1 y2 y3 y4 y5 y6 y7 y8 y9 y10 y11 r_mem r_dsk r_fresh r_young r_dropped r_released r_owed r_counted r_inMemory r_onDisk r_thn r_moved)) cf ⟨by decide, by decide⟩ hK hN hA (c_V_defects l D cI cZ v0 v1 v2 v3 v4 v5 v6 v7 v8 v9 v10 v11 v12 v13 v14 v15 F v_m_maps v_m_tables v_m_words v_m_blank v_m_queue v_d_maps v_d_tables v_d_words v_d_blank v_d_queue v_young v_dropped v_leaving v_ren v_d_queue' (xs ((nI (5 * n)) + (nI 1)).toNatClampNeg) r e1) k_L_68 ⟨rfl, rfl, by decide, by decide⟩ 1 rfl rfl rfl hl hP hD hS [0, 1, 2, 3, 4, 5, 6, 7, 8, 9, 10, 11, 12, 13, 14, 15] [16, 17, 18, 19, 20, 21, 22, 23, 24, 25, 26, 27] [12, 13, 14, 15, 16, 17, 18, 19, 20, 21, 22, 23, 24, 25, 26, 27, 0, 1, 2, 3, 4, 5, 6, 7, 8, 9, 10, 11] rfl rfl rfl (by decide) rfl rfl rfl rfl rfl (Nat.le_of_ble_eq_true rfl) rfl d_L_506 (fun H locs hP hD hS => ?_)
  refine lv_aload_n hx hb d_L_509 rfl (lv_at hl 3 rfl) ?_
  refine lv_aload_n hx hb d_L_510 rfl (lv_at hl 1 rfl) ?_
  refine lv_iload_n hx hb d_L_511 rfl (lv_at hl 0 rfl) ?_
  refine lv_iconst (v := (nI 1)) hx hb d_L_512 (by decide) ?_
  refine lv_iadd hx hb d_L_513 ?_
  refine va_sld hx hb hX hbl hbA hS (by rw [nI_add]; exact vp_in_nI (by omega) (by omega)) d_L_514 ?_
  refine wk_ViC (As := [.int (xs ((nI (5 * n)) + (nI 1)).toNatClampNeg)]) (rest := [.int r]) (wc := w_R cI cZ y0 y1 y2 y3 y4 y5 y6 y7 y8 y9 y10 y11 r_mem r_dsk r_fresh r_young r_dropped r_released r_owed r_counted r_inMemory r_onDisk r_thn r_moved) (w1 := w_R cI cZ y0 y1 y2 y3 y4 y5 y6 y7 y8 y9 y10 y11 r_mem r_dsk r_fresh r_young r_dropped r_released r_owed r_counted r_inMemory r_onDisk' r_thn r_moved) (wr := w_V cI cZ v0 v1 v2 v3 v4 v5 v6 v7 v8 v9 v10 v11 v12 v13 v14 v15 v_m_maps v_m_tables v_m_words v_m_blank v_m_queue v_d_maps v_d_tables v_d_words v_d_blank v_d_queue' v_young v_dropped v_leaving v_ren) (wz := (w_V cI cZ v0 v1 v2 v3 v4 v5 v6 v7 v8 v9 v10 v11 v12 v13 v14 v15 v_m_maps v_m_tables v_m_words v_m_blank v_m_queue v_d_maps v_d_tables v_d_words v_d_blank v_d_queue' v_young v_dropped v_leaving v_ren ++ w_R cI cZ y0 y1 y2 y3 y4 y5 y6 y7 y8 y9 y10 y11 r_mem r_dsk r_fresh r_young r_dropped r_released r_owed r_counted r_inMemory r_onDisk' r_thn r_moved)) cf ⟨by decide, by decide⟩ hK hN hA (c_R_defects l D cI cZ y0 y1 y2 y3 y4 y5 y6 y7 y8 y9 y10 y11 F r_mem r_dsk r_fresh r_young r_dropped r_released r_owed r_counted r_inMemory r_onDisk r_thn r_moved r_onDisk' (xs ((nI (5 * n)) + (nI 1)).toNatClampNeg) r e2) k_L_71 ⟨rfl, rfl, by decide, by decide⟩ 2 rfl rfl rfl hl hP hD hS [16, 17, 18, 19, 20, 21, 22, 23, 24, 25, 26, 27] [0, 1, 2, 3, 4, 5, 6, 7, 8, 9, 10, 11, 12, 13, 14, 15] [0, 1, 2, 3, 4, 5, 6, 7, 8, 9, 10, 11, 12, 13, 14, 15, 16, 17, 18, 19, 20, 21, 22, 23, 24, 25, 26, 27] rfl rfl rfl (by decide) rfl rfl rfl rfl rfl (Nat.le_of_ble_eq_true rfl) rfl d_L_515 (fun H locs hP hD hS => ?_)
  refine lv_icmp_eq hx hb d_L_518 rfl (fun _ => ?_) (fun hc => absurd rfl hc)
  exact kk v_m_maps v_m_tables v_m_words v_m_blank v_m_queue v_d_maps v_d_tables v_d_words v_d_blank v_d_queue' v_young v_dropped v_leaving v_ren r_mem r_dsk r_fresh r_young r_dropped r_released r_owed r_counted r_inMemory r_onDisk' r_thn r_moved H locs ls hR hl hP hD hS
set_option maxHeartbeats 4000000 in
set_option maxRecDepth 100000 in
theorem w_L_image {p : Program} {l : Launch} {e : Env} {s : State} {m : MethodId} {below : List Frame} {meth : Method} {c : Code} {b L : Nat} {xs : Nat → Int32} {D : va_G} {cI cZ : ClassId} (F : Nat) (Rl : RlT) (hst : St_image F Rl) (cx : lwC p s m meth c b L xs D cI cZ) (v0 v1 v2 v3 v4 v5 v6 v7 v8 v9 v10 v11 v12 v13 v14 v15 y0 y1 y2 y3 y4 y5 y6 y7 y8 y9 y10 y11 n : Nat) (hL : L ≤ 2560) (hk : 5 * n + 5 ≤ L) (kk : LGo p l e s m below meth c b D cI cZ Rl v0 v1 v2 v3 v4 v5 v6 v7 v8 v9 v10 v11 v12 v13 v14 v15 y0 y1 y2 y3 y4 y5 y6 y7 y8 y9 y10 y11 589 (n + 1) (5 * n)) : LGo p l e s m below meth c b D cI cZ Rl v0 v1 v2 v3 v4 v5 v6 v7 v8 v9 v10 v11 v12 v13 v14 v15 y0 y1 y2 y3 y4 y5 y6 y7 y8 y9 y10 y11 523 n (5 * n) := by
  obtain ⟨cf, hr, hlk, hK, hN, hX, hbl⟩ := cx
  have hx := cf.1
  have hb := cf.2.1
  have hown := cf.2.2.2.1
  have hA : ∀ q : Nat, s.heap.size ≤ q → (fun q => s.heap.size ≤ q) q := fun q h => h
  have hbA : ¬ (fun q => s.heap.size ≤ q) b := Nat.not_le.mpr hbl
  intro v_m_maps v_m_tables v_m_words v_m_blank v_m_queue v_d_maps v_d_tables v_d_words v_d_blank v_d_queue v_young v_dropped v_leaving v_ren r_mem r_dsk r_fresh r_young r_dropped r_released r_owed r_counted r_inMemory r_onDisk r_thn r_moved H locs ls hRl hl hP hD hS
  refine lv_aload_n hx hb d_L_523 rfl (lv_at hl 2 rfl) ?_
  refine lv_aload_n hx hb d_L_524 rfl (lv_at hl 1 rfl) ?_
  refine lv_iload_n hx hb d_L_525 rfl (lv_at hl 0 rfl) ?_
  refine lv_iconst (v := (nI 1)) hx hb d_L_526 (by decide) ?_
  refine lv_iadd hx hb d_L_527 ?_
  refine va_sld hx hb hX hbl hbA hS (by rw [nI_add]; exact vp_in_nI (by omega) (by omega)) d_L_528 ?_
  refine lv_aload_n hx hb d_L_529 rfl (lv_at hl 1 rfl) ?_
  refine lv_iload_n hx hb d_L_530 rfl (lv_at hl 0 rfl) ?_
  refine lv_iconst (v := (nI 2)) hx hb d_L_531 (by decide) ?_
  refine lv_iadd hx hb d_L_532 ?_
  refine va_sld hx hb hX hbl hbA hS (by rw [nI_add]; exact vp_in_nI (by omega) (by omega)) d_L_533 ?_
  obtain ⟨r, e1, e2, hR⟩ := hst n v_m_maps v_m_tables v_m_words v_m_blank v_m_queue v_d_maps v_d_tables v_d_words v_d_blank v_d_queue v_young v_dropped v_leaving v_ren r_mem r_dsk r_fresh r_young r_dropped r_released r_owed r_counted r_inMemory r_onDisk r_thn r_moved (xs ((nI (5 * n)) + (nI 1)).toNatClampNeg) (xs ((nI (5 * n)) + (nI 2)).toNatClampNeg) (by omega) hRl
  refine wk_ViC (As := [.int (xs ((nI (5 * n)) + (nI 1)).toNatClampNeg), .int (xs ((nI (5 * n)) + (nI 2)).toNatClampNeg)]) (rest := []) (wc := w_V cI cZ v0 v1 v2 v3 v4 v5 v6 v7 v8 v9 v10 v11 v12 v13 v14 v15 v_m_maps v_m_tables v_m_words v_m_blank v_m_queue v_d_maps v_d_tables v_d_words v_d_blank v_d_queue v_young v_dropped v_leaving v_ren) (w1 := w_V cI cZ v0 v1 v2 v3 v4 v5 v6 v7 v8 v9 v10 v11 v12 v13 v14 v15 v_m_maps v_m_tables v_m_words v_m_blank v_m_queue v_d_maps v_d_tables v_d_words v_d_blank v_d_queue v_young v_dropped v_leaving v_ren) (wr := w_R cI cZ y0 y1 y2 y3 y4 y5 y6 y7 y8 y9 y10 y11 r_mem r_dsk r_fresh r_young r_dropped r_released r_owed r_counted r_inMemory r_onDisk r_thn r_moved) (wz := (w_V cI cZ v0 v1 v2 v3 v4 v5 v6 v7 v8 v9 v10 v11 v12 v13 v14 v15 v_m_maps v_m_tables v_m_words v_m_blank v_m_queue v_d_maps v_d_tables v_d_words v_d_blank v_d_queue v_young v_dropped v_leaving v_ren ++ w_R cI cZ y0 y1 y2 y3 y4 y5 y6 y7 y8 y9 y10 y11 r_mem r_dsk r_fresh r_young r_dropped r_released r_owed r_counted r_inMemory r_onDisk r_thn r_moved)) cf ⟨by decide, by decide⟩ hK hN hA (c_V_image l D cI cZ v0 v1 v2 v3 v4 v5 v6 v7 v8 v9 v10 v11 v12 v13 v14 v15 v_m_maps v_m_tables v_m_words v_m_blank v_m_queue v_d_maps v_d_tables v_d_words v_d_blank v_d_queue v_young v_dropped v_leaving v_ren (xs ((nI (5 * n)) + (nI 1)).toNatClampNeg) (xs ((nI (5 * n)) + (nI 2)).toNatClampNeg) r e1) k_L_72 ⟨rfl, rfl, by decide, by decide⟩ 1 rfl rfl rfl hl hP hD hS [0, 1, 2, 3, 4, 5, 6, 7, 8, 9, 10, 11, 12, 13, 14, 15] [16, 17, 18, 19, 20, 21, 22, 23, 24, 25, 26, 27] [12, 13, 14, 15, 16, 17, 18, 19, 20, 21, 22, 23, 24, 25, 26, 27, 0, 1, 2, 3, 4, 5, 6, 7, 8, 9, 10, 11] rfl rfl rfl (by decide) rfl rfl rfl rfl rfl (Nat.le_of_ble_eq_true rfl) rfl d_L_534 (fun H locs hP hD hS => ?_)
  refine lv_aload_n hx hb d_L_537 rfl (lv_at hl 3 rfl) ?_
  refine lv_aload_n hx hb d_L_538 rfl (lv_at hl 1 rfl) ?_
  refine lv_iload_n hx hb d_L_539 rfl (lv_at hl 0 rfl) ?_
  refine lv_iconst (v := (nI 1)) hx hb d_L_540 (by decide) ?_
  refine lv_iadd hx hb d_L_541 ?_
  refine va_sld hx hb hX hbl hbA hS (by rw [nI_add]; exact vp_in_nI (by omega) (by omega)) d_L_542 ?_
  refine lv_aload_n hx hb d_L_543 rfl (lv_at hl 1 rfl) ?_
  refine lv_iload_n hx hb d_L_544 rfl (lv_at hl 0 rfl) ?_
  refine lv_iconst (v := (nI 2)) hx hb d_L_545 (by decide) ?_
  refine lv_iadd hx hb d_L_546 ?_
  refine va_sld hx hb hX hbl hbA hS (by rw [nI_add]; exact vp_in_nI (by omega) (by omega)) d_L_547 ?_
  refine wk_ViC (As := [.int (xs ((nI (5 * n)) + (nI 1)).toNatClampNeg), .int (xs ((nI (5 * n)) + (nI 2)).toNatClampNeg)]) (rest := [.int r]) (wc := w_R cI cZ y0 y1 y2 y3 y4 y5 y6 y7 y8 y9 y10 y11 r_mem r_dsk r_fresh r_young r_dropped r_released r_owed r_counted r_inMemory r_onDisk r_thn r_moved) (w1 := w_R cI cZ y0 y1 y2 y3 y4 y5 y6 y7 y8 y9 y10 y11 r_mem r_dsk r_fresh r_young r_dropped r_released r_owed r_counted r_inMemory r_onDisk r_thn r_moved) (wr := w_V cI cZ v0 v1 v2 v3 v4 v5 v6 v7 v8 v9 v10 v11 v12 v13 v14 v15 v_m_maps v_m_tables v_m_words v_m_blank v_m_queue v_d_maps v_d_tables v_d_words v_d_blank v_d_queue v_young v_dropped v_leaving v_ren) (wz := (w_V cI cZ v0 v1 v2 v3 v4 v5 v6 v7 v8 v9 v10 v11 v12 v13 v14 v15 v_m_maps v_m_tables v_m_words v_m_blank v_m_queue v_d_maps v_d_tables v_d_words v_d_blank v_d_queue v_young v_dropped v_leaving v_ren ++ w_R cI cZ y0 y1 y2 y3 y4 y5 y6 y7 y8 y9 y10 y11 r_mem r_dsk r_fresh r_young r_dropped r_released r_owed r_counted r_inMemory r_onDisk r_thn r_moved)) cf ⟨by decide, by decide⟩ hK hN hA (c_R_image l D cI cZ y0 y1 y2 y3 y4 y5 y6 y7 y8 y9 y10 y11 r_mem r_dsk r_fresh r_young r_dropped r_released r_owed r_counted r_inMemory r_onDisk r_thn r_moved (xs ((nI (5 * n)) + (nI 1)).toNatClampNeg) (xs ((nI (5 * n)) + (nI 2)).toNatClampNeg) r e2) k_L_75 ⟨rfl, rfl, by decide, by decide⟩ 2 rfl rfl rfl hl hP hD hS [16, 17, 18, 19, 20, 21, 22, 23, 24, 25, 26, 27] [0, 1, 2, 3, 4, 5, 6, 7, 8, 9, 10, 11, 12, 13, 14, 15] [0, 1, 2, 3, 4, 5, 6, 7, 8, 9, 10, 11, 12, 13, 14, 15, 16, 17, 18, 19, 20, 21, 22, 23, 24, 25, 26, 27] rfl rfl rfl (by decide) rfl rfl rfl rfl rfl (Nat.le_of_ble_eq_true rfl) rfl d_L_548 (fun H locs hP hD hS => ?_)
  refine lv_icmp_eq hx hb d_L_551 rfl (fun _ => ?_) (fun hc => absurd rfl hc)
  exact kk v_m_maps v_m_tables v_m_words v_m_blank v_m_queue v_d_maps v_d_tables v_d_words v_d_blank v_d_queue v_young v_dropped v_leaving v_ren r_mem r_dsk r_fresh r_young r_dropped r_released r_owed r_counted r_inMemory r_onDisk r_thn r_moved H locs ls hR hl hP hD hS
set_option maxHeartbeats 4000000 in
set_option maxRecDepth 100000 in
theorem w_L_cached {p : Program} {l : Launch} {e : Env} {s : State} {m : MethodId} {below : List Frame} {meth : Method} {c : Code} {b L : Nat} {xs : Nat → Int32} {D : va_G} {cI cZ : ClassId} (F : Nat) (Rl : RlT) (hst : St_cached F Rl) (cx : lwC p s m meth c b L xs D cI cZ) (v0 v1 v2 v3 v4 v5 v6 v7 v8 v9 v10 v11 v12 v13 v14 v15 y0 y1 y2 y3 y4 y5 y6 y7 y8 y9 y10 y11 n : Nat) (hL : L ≤ 2560) (hk : 5 * n + 5 ≤ L) (kk : LGo p l e s m below meth c b D cI cZ Rl v0 v1 v2 v3 v4 v5 v6 v7 v8 v9 v10 v11 v12 v13 v14 v15 y0 y1 y2 y3 y4 y5 y6 y7 y8 y9 y10 y11 589 (n + 1) (5 * n)) : LGo p l e s m below meth c b D cI cZ Rl v0 v1 v2 v3 v4 v5 v6 v7 v8 v9 v10 v11 v12 v13 v14 v15 y0 y1 y2 y3 y4 y5 y6 y7 y8 y9 y10 y11 556 n (5 * n) := by
  obtain ⟨cf, hr, hlk, hK, hN, hX, hbl⟩ := cx
  have hx := cf.1
  have hb := cf.2.1
  have hown := cf.2.2.2.1
  have hA : ∀ q : Nat, s.heap.size ≤ q → (fun q => s.heap.size ≤ q) q := fun q h => h
  have hbA : ¬ (fun q => s.heap.size ≤ q) b := Nat.not_le.mpr hbl
  intro v_m_maps v_m_tables v_m_words v_m_blank v_m_queue v_d_maps v_d_tables v_d_words v_d_blank v_d_queue v_young v_dropped v_leaving v_ren r_mem r_dsk r_fresh r_young r_dropped r_released r_owed r_counted r_inMemory r_onDisk r_thn r_moved H locs ls hRl hl hP hD hS
  refine lv_aload_n hx hb d_L_556 rfl (lv_at hl 2 rfl) ?_
  refine lv_aload_n hx hb d_L_557 rfl (lv_at hl 1 rfl) ?_
  refine lv_iload_n hx hb d_L_558 rfl (lv_at hl 0 rfl) ?_
  refine lv_iconst (v := (nI 1)) hx hb d_L_559 (by decide) ?_
  refine lv_iadd hx hb d_L_560 ?_
  refine va_sld hx hb hX hbl hbA hS (by rw [nI_add]; exact vp_in_nI (by omega) (by omega)) d_L_561 ?_
  refine lv_aload_n hx hb d_L_562 rfl (lv_at hl 1 rfl) ?_
  refine lv_iload_n hx hb d_L_563 rfl (lv_at hl 0 rfl) ?_
  refine lv_iconst (v := (nI 2)) hx hb d_L_564 (by decide) ?_
  refine lv_iadd hx hb d_L_565 ?_
  refine va_sld hx hb hX hbl hbA hS (by rw [nI_add]; exact vp_in_nI (by omega) (by omega)) d_L_566 ?_
  obtain ⟨r, e1, e2, hR⟩ := hst n v_m_maps v_m_tables v_m_words v_m_blank v_m_queue v_d_maps v_d_tables v_d_words v_d_blank v_d_queue v_young v_dropped v_leaving v_ren r_mem r_dsk r_fresh r_young r_dropped r_released r_owed r_counted r_inMemory r_onDisk r_thn r_moved (xs ((nI (5 * n)) + (nI 1)).toNatClampNeg) (xs ((nI (5 * n)) + (nI 2)).toNatClampNeg) (by omega) hRl
  refine wk_ViC (As := [.int (xs ((nI (5 * n)) + (nI 1)).toNatClampNeg), .int (xs ((nI (5 * n)) + (nI 2)).toNatClampNeg)]) (rest := []) (wc := w_V cI cZ v0 v1 v2 v3 v4 v5 v6 v7 v8 v9 v10 v11 v12 v13 v14 v15 v_m_maps v_m_tables v_m_words v_m_blank v_m_queue v_d_maps v_d_tables v_d_words v_d_blank v_d_queue v_young v_dropped v_leaving v_ren) (w1 := w_V cI cZ v0 v1 v2 v3 v4 v5 v6 v7 v8 v9 v10 v11 v12 v13 v14 v15 v_m_maps v_m_tables v_m_words v_m_blank v_m_queue v_d_maps v_d_tables v_d_words v_d_blank v_d_queue v_young v_dropped v_leaving v_ren) (wr := w_R cI cZ y0 y1 y2 y3 y4 y5 y6 y7 y8 y9 y10 y11 r_mem r_dsk r_fresh r_young r_dropped r_released r_owed r_counted r_inMemory r_onDisk r_thn r_moved) (wz := (w_V cI cZ v0 v1 v2 v3 v4 v5 v6 v7 v8 v9 v10 v11 v12 v13 v14 v15 v_m_maps v_m_tables v_m_words v_m_blank v_m_queue v_d_maps v_d_tables v_d_words v_d_blank v_d_queue v_young v_dropped v_leaving v_ren ++ w_R cI cZ y0 y1 y2 y3 y4 y5 y6 y7 y8 y9 y10 y11 r_mem r_dsk r_fresh r_young r_dropped r_released r_owed r_counted r_inMemory r_onDisk r_thn r_moved)) cf ⟨by decide, by decide⟩ hK hN hA (c_V_cached l D cI cZ v0 v1 v2 v3 v4 v5 v6 v7 v8 v9 v10 v11 v12 v13 v14 v15 v_m_maps v_m_tables v_m_words v_m_blank v_m_queue v_d_maps v_d_tables v_d_words v_d_blank v_d_queue v_young v_dropped v_leaving v_ren (xs ((nI (5 * n)) + (nI 1)).toNatClampNeg) (xs ((nI (5 * n)) + (nI 2)).toNatClampNeg) r e1) k_L_76 ⟨rfl, rfl, by decide, by decide⟩ 1 rfl rfl rfl hl hP hD hS [0, 1, 2, 3, 4, 5, 6, 7, 8, 9, 10, 11, 12, 13, 14, 15] [16, 17, 18, 19, 20, 21, 22, 23, 24, 25, 26, 27] [12, 13, 14, 15, 16, 17, 18, 19, 20, 21, 22, 23, 24, 25, 26, 27, 0, 1, 2, 3, 4, 5, 6, 7, 8, 9, 10, 11] rfl rfl rfl (by decide) rfl rfl rfl rfl rfl (Nat.le_of_ble_eq_true rfl) rfl d_L_567 (fun H locs hP hD hS => ?_)
  refine lv_aload_n hx hb d_L_570 rfl (lv_at hl 3 rfl) ?_
  refine lv_aload_n hx hb d_L_571 rfl (lv_at hl 1 rfl) ?_
  refine lv_iload_n hx hb d_L_572 rfl (lv_at hl 0 rfl) ?_
  refine lv_iconst (v := (nI 1)) hx hb d_L_573 (by decide) ?_
  refine lv_iadd hx hb d_L_574 ?_
  refine va_sld hx hb hX hbl hbA hS (by rw [nI_add]; exact vp_in_nI (by omega) (by omega)) d_L_575 ?_
  refine lv_aload_n hx hb d_L_576 rfl (lv_at hl 1 rfl) ?_
  refine lv_iload_n hx hb d_L_577 rfl (lv_at hl 0 rfl) ?_
  refine lv_iconst (v := (nI 2)) hx hb d_L_578 (by decide) ?_
  refine lv_iadd hx hb d_L_579 ?_
  refine va_sld hx hb hX hbl hbA hS (by rw [nI_add]; exact vp_in_nI (by omega) (by omega)) d_L_580 ?_
  refine wk_ViC (As := [.int (xs ((nI (5 * n)) + (nI 1)).toNatClampNeg), .int (xs ((nI (5 * n)) + (nI 2)).toNatClampNeg)]) (rest := [.int r]) (wc := w_R cI cZ y0 y1 y2 y3 y4 y5 y6 y7 y8 y9 y10 y11 r_mem r_dsk r_fresh r_young r_dropped r_released r_owed r_counted r_inMemory r_onDisk r_thn r_moved) (w1 := w_R cI cZ y0 y1 y2 y3 y4 y5 y6 y7 y8 y9 y10 y11 r_mem r_dsk r_fresh r_young r_dropped r_released r_owed r_counted r_inMemory r_onDisk r_thn r_moved) (wr := w_V cI cZ v0 v1 v2 v3 v4 v5 v6 v7 v8 v9 v10 v11 v12 v13 v14 v15 v_m_maps v_m_tables v_m_words v_m_blank v_m_queue v_d_maps v_d_tables v_d_words v_d_blank v_d_queue v_young v_dropped v_leaving v_ren) (wz := (w_V cI cZ v0 v1 v2 v3 v4 v5 v6 v7 v8 v9 v10 v11 v12 v13 v14 v15 v_m_maps v_m_tables v_m_words v_m_blank v_m_queue v_d_maps v_d_tables v_d_words v_d_blank v_d_queue v_young v_dropped v_leaving v_ren ++ w_R cI cZ y0 y1 y2 y3 y4 y5 y6 y7 y8 y9 y10 y11 r_mem r_dsk r_fresh r_young r_dropped r_released r_owed r_counted r_inMemory r_onDisk r_thn r_moved)) cf ⟨by decide, by decide⟩ hK hN hA (c_R_cached l D cI cZ y0 y1 y2 y3 y4 y5 y6 y7 y8 y9 y10 y11 r_mem r_dsk r_fresh r_young r_dropped r_released r_owed r_counted r_inMemory r_onDisk r_thn r_moved (xs ((nI (5 * n)) + (nI 1)).toNatClampNeg) (xs ((nI (5 * n)) + (nI 2)).toNatClampNeg) r e2) k_L_79 ⟨rfl, rfl, by decide, by decide⟩ 2 rfl rfl rfl hl hP hD hS [16, 17, 18, 19, 20, 21, 22, 23, 24, 25, 26, 27] [0, 1, 2, 3, 4, 5, 6, 7, 8, 9, 10, 11, 12, 13, 14, 15] [0, 1, 2, 3, 4, 5, 6, 7, 8, 9, 10, 11, 12, 13, 14, 15, 16, 17, 18, 19, 20, 21, 22, 23, 24, 25, 26, 27] rfl rfl rfl (by decide) rfl rfl rfl rfl rfl (Nat.le_of_ble_eq_true rfl) rfl d_L_581 (fun H locs hP hD hS => ?_)
  refine lv_icmp_eq hx hb d_L_584 rfl (fun _ => ?_) (fun hc => absurd rfl hc)
  exact kk v_m_maps v_m_tables v_m_words v_m_blank v_m_queue v_d_maps v_d_tables v_d_words v_d_blank v_d_queue v_young v_dropped v_leaving v_ren r_mem r_dsk r_fresh r_young r_dropped r_released r_owed r_counted r_inMemory r_onDisk r_thn r_moved H locs ls hR hl hP hD hS
set_option maxHeartbeats 4000000 in
set_option maxRecDepth 100000 in
theorem w_L_head {p : Program} {l : Launch} {e : Env} {s : State} {m : MethodId} {below : List Frame} {meth : Method} {c : Code} {b L : Nat} {xs : Nat → Int32} {D : va_G} {cI cZ : ClassId} (F : Nat) (Rl : RlT) (h_create : St_create F Rl) (h_link : St_link F Rl) (h_remove : St_remove F Rl) (h_rename : St_rename F Rl) (h_write : St_write F Rl) (h_read : St_read F Rl) (h_cut : St_cut F Rl) (h_lookup : St_lookup F Rl) (h_flush : St_flush F Rl) (h_sync : St_sync F Rl) (h_crash : St_crash F Rl) (h_reclaim : St_reclaim F Rl) (h_defects : St_defects F Rl) (h_image : St_image F Rl) (h_cached : St_cached F Rl) (hRn : ∀ n (v_m_maps : AR) (v_m_tables : AR) (v_m_words : AR) (v_m_blank : AR) (v_m_queue : AR) (v_d_maps : AR) (v_d_tables : AR) (v_d_words : AR) (v_d_blank : AR) (v_d_queue : AR) (v_young : AR) (v_dropped : AR) (v_leaving : AR) (v_ren : Int32) (r_mem : AR) (r_dsk : AR) (r_fresh : AR) (r_young : AR) (r_dropped : AR) (r_released : AR) (r_owed : AR) (r_counted : AR) (r_inMemory : AR) (r_onDisk : AR) (r_thn : AR) (r_moved : Int32), n < 512 → Rl n v_m_maps v_m_tables v_m_words v_m_blank v_m_queue v_d_maps v_d_tables v_d_words v_d_blank v_d_queue v_young v_dropped v_leaving v_ren r_mem r_dsk r_fresh r_young r_dropped r_released r_owed r_counted r_inMemory r_onDisk r_thn r_moved → Rl (n + 1) v_m_maps v_m_tables v_m_words v_m_blank v_m_queue v_d_maps v_d_tables v_d_words v_d_blank v_d_queue v_young v_dropped v_leaving v_ren r_mem r_dsk r_fresh r_young r_dropped r_released r_owed r_counted r_inMemory r_onDisk r_thn r_moved) (cx : lwC p s m meth c b L xs D cI cZ) (v0 v1 v2 v3 v4 v5 v6 v7 v8 v9 v10 v11 v12 v13 v14 v15 y0 y1 y2 y3 y4 y5 y6 y7 y8 y9 y10 y11 : Nat) (hL : L ≤ 2560) : ∀ (d n : Nat), n ≤ 512 → L < 5 * n + 5 * d → LGo p l e s m below meth c b D cI cZ Rl v0 v1 v2 v3 v4 v5 v6 v7 v8 v9 v10 v11 v12 v13 v14 v15 y0 y1 y2 y3 y4 y5 y6 y7 y8 y9 y10 y11 18 n (5 * n) := by
  have cx0 := cx
  obtain ⟨cf, hr, hlk, hK, hN, hX, hbl⟩ := cx
  have hx := cf.1
  have hb := cf.2.1
  have hown := cf.2.2.2.1
  have hA : ∀ q : Nat, s.heap.size ≤ q → (fun q => s.heap.size ≤ q) q := fun q h => h
  have hbA : ¬ (fun q => s.heap.size ≤ q) b := Nat.not_le.mpr hbl
  intro d
  induction d with
  | zero =>
    intro n hn hd
    intro v_m_maps v_m_tables v_m_words v_m_blank v_m_queue v_d_maps v_d_tables v_d_words v_d_blank v_d_queue v_young v_dropped v_leaving v_ren r_mem r_dsk r_fresh r_young r_dropped r_released r_owed r_counted r_inMemory r_onDisk r_thn r_moved H locs ls hRl hl hP hD hS
    have hlt : nI L - nI 5 < nI (5 * n) ↔ ((L : Int) - 5 < ((5 * n : Nat) : Int)) := by
      rw [Int32.lt_iff_toInt_lt, nI_toInt (by omega)]
      have := pk_sub_toInt (a := L) (b := 5) (by omega) (by omega)
      rw [this]; rfl
    refine lv_iload_n hx hb d_L_18 rfl (lv_at hl 0 rfl) ?_
    refine lv_aload_n hx hb d_L_19 rfl (lv_at hl 1 rfl) ?_
    refine va_slen hx hb hX hbl hbA hS d_L_20 ?_
    refine lv_iconst (v := (nI 5)) hx hb d_L_21 (by decide) ?_
    refine lv_isub hx hb d_L_22 ?_
    refine lv_icmp_gt hx hb d_L_23 rfl (fun hc => ?_) (fun hc => absurd (hlt.mpr (by omega)) hc)
    refine lv_iconst (v := 1) hx hb d_L_595 (by decide) ?_
    exact va_forget (fun q hq => hS.2.2 q hq) (lw_ret hx hb hr hlk d_L_596)
  | succ d ih =>
    intro n hn hd
    intro v_m_maps v_m_tables v_m_words v_m_blank v_m_queue v_d_maps v_d_tables v_d_words v_d_blank v_d_queue v_young v_dropped v_leaving v_ren r_mem r_dsk r_fresh r_young r_dropped r_released r_owed r_counted r_inMemory r_onDisk r_thn r_moved H locs ls hRl hl hP hD hS
    by_cases hk : 5 * n + 5 ≤ L
    · have hlt : nI L - nI 5 < nI (5 * n) ↔ ((L : Int) - 5 < ((5 * n : Nat) : Int)) := by
        rw [Int32.lt_iff_toInt_lt, nI_toInt (by omega)]
        have := pk_sub_toInt (a := L) (b := 5) (by omega) (by omega)
        rw [this]; rfl
      refine lv_iload_n hx hb d_L_18 rfl (lv_at hl 0 rfl) ?_
      refine lv_aload_n hx hb d_L_19 rfl (lv_at hl 1 rfl) ?_
      refine va_slen hx hb hX hbl hbA hS d_L_20 ?_
      refine lv_iconst (v := (nI 5)) hx hb d_L_21 (by decide) ?_
      refine lv_isub hx hb d_L_22 ?_
      refine lv_icmp_gt hx hb d_L_23 rfl (fun hc => absurd (hlt.mp hc) (by omega)) (fun hc => ?_)
      refine lv_aload_n hx hb d_L_26 rfl (lv_at hl 1 rfl) ?_
      refine lv_iload_n hx hb d_L_27 rfl (lv_at hl 0 rfl) ?_
      refine va_sld hx hb hX hbl hbA hS (vp_in_nI (by omega) (by omega)) d_L_28 ?_
      refine lv_bipush (v := (nI 15)) hx hb d_L_29 (by decide) ?_
      refine lv_iand hx hb d_L_31 ?_
      obtain ⟨j, hj, ej⟩ := pk_andE (xs (nI (5 * n)).toNatClampNeg) (m := nI 15) 4 (by decide)
      rw [ej]
      have kk : LGo p l e s m below meth c b D cI cZ Rl v0 v1 v2 v3 v4 v5 v6 v7 v8 v9 v10 v11 v12 v13 v14 v15 y0 y1 y2 y3 y4 y5 y6 y7 y8 y9 y10 y11 589 (n + 1) (5 * n) := by
        intro v_m_maps v_m_tables v_m_words v_m_blank v_m_queue v_d_maps v_d_tables v_d_words v_d_blank v_d_queue v_young v_dropped v_leaving v_ren r_mem r_dsk r_fresh r_young r_dropped r_released r_owed r_counted r_inMemory r_onDisk r_thn r_moved H locs ls hRl hl hP hD hS
        refine lv_iinc (k := 0) (v := nI (5 * (n + 1))) (lv' := [(3, .int (nI (5 * (n + 1)))), (0, .ref b), (1, .ref v0), (2, .ref y0)]) hx hb d_L_589 hl rfl (by rw [show Int32.ofInt 5 = nI 5 from rfl, nI_add]; rfl) (by decide) rfl (fun ls hl => ?_)
        refine lv_goto hx hb d_L_592 rfl ?_
        exact ih (n + 1) (by omega) (by omega) v_m_maps v_m_tables v_m_words v_m_blank v_m_queue v_d_maps v_d_tables v_d_words v_d_blank v_d_queue v_young v_dropped v_leaving v_ren r_mem r_dsk r_fresh r_young r_dropped r_released r_owed r_counted r_inMemory r_onDisk r_thn r_moved H locs ls hRl hl hP hD hS
      rcases (show j = 0 ∨ j = 1 ∨ j = 2 ∨ j = 3 ∨ j = 4 ∨ j = 5 ∨ j = 6 ∨ j = 7 ∨ j = 8 ∨ j = 9 ∨ j = 10 ∨ j = 11 ∨ j = 12 ∨ j = 13 ∨ j = 14 ∨ j = 15 by omega) with rfl | rfl | rfl | rfl | rfl | rfl | rfl | rfl | rfl | rfl | rfl | rfl | rfl | rfl | rfl | rfl
      · refine lv_tableIn (off := 76) (tgt := 108) hx hb d_L_32 (by decide) (by decide) (by decide) rfl ?_
        by_cases hz : xs (nI (5 * n) + nI 3).toNatClampNeg = 0
        · exact w_L_create_0 F Rl h_create cx0 v0 v1 v2 v3 v4 v5 v6 v7 v8 v9 v10 v11 v12 v13 v14 v15 y0 y1 y2 y3 y4 y5 y6 y7 y8 y9 y10 y11 n hL hk hz kk v_m_maps v_m_tables v_m_words v_m_blank v_m_queue v_d_maps v_d_tables v_d_words v_d_blank v_d_queue v_young v_dropped v_leaving v_ren r_mem r_dsk r_fresh r_young r_dropped r_released r_owed r_counted r_inMemory r_onDisk r_thn r_moved H locs ls hRl hl hP hD hS
        · exact w_L_create_1 F Rl h_create cx0 v0 v1 v2 v3 v4 v5 v6 v7 v8 v9 v10 v11 v12 v13 v14 v15 y0 y1 y2 y3 y4 y5 y6 y7 y8 y9 y10 y11 n hL hk hz kk v_m_maps v_m_tables v_m_words v_m_blank v_m_queue v_d_maps v_d_tables v_d_words v_d_blank v_d_queue v_young v_dropped v_leaving v_ren r_mem r_dsk r_fresh r_young r_dropped r_released r_owed r_counted r_inMemory r_onDisk r_thn r_moved H locs ls hRl hl hP hD hS
      · refine lv_tableIn (off := 135) (tgt := 167) hx hb d_L_32 (by decide) (by decide) (by decide) rfl ?_
        exact w_L_link F Rl h_link cx0 v0 v1 v2 v3 v4 v5 v6 v7 v8 v9 v10 v11 v12 v13 v14 v15 y0 y1 y2 y3 y4 y5 y6 y7 y8 y9 y10 y11 n hL hk kk v_m_maps v_m_tables v_m_words v_m_blank v_m_queue v_d_maps v_d_tables v_d_words v_d_blank v_d_queue v_young v_dropped v_leaving v_ren r_mem r_dsk r_fresh r_young r_dropped r_released r_owed r_counted r_inMemory r_onDisk r_thn r_moved H locs ls hRl hl hP hD hS
      · refine lv_tableIn (off := 178) (tgt := 210) hx hb d_L_32 (by decide) (by decide) (by decide) rfl ?_
        exact w_L_remove F Rl h_remove cx0 v0 v1 v2 v3 v4 v5 v6 v7 v8 v9 v10 v11 v12 v13 v14 v15 y0 y1 y2 y3 y4 y5 y6 y7 y8 y9 y10 y11 n hL hk kk v_m_maps v_m_tables v_m_words v_m_blank v_m_queue v_d_maps v_d_tables v_d_words v_d_blank v_d_queue v_young v_dropped v_leaving v_ren r_mem r_dsk r_fresh r_young r_dropped r_released r_owed r_counted r_inMemory r_onDisk r_thn r_moved H locs ls hRl hl hP hD hS
      · refine lv_tableIn (off := 211) (tgt := 243) hx hb d_L_32 (by decide) (by decide) (by decide) rfl ?_
        exact w_L_rename F Rl h_rename cx0 v0 v1 v2 v3 v4 v5 v6 v7 v8 v9 v10 v11 v12 v13 v14 v15 y0 y1 y2 y3 y4 y5 y6 y7 y8 y9 y10 y11 n hL hk kk v_m_maps v_m_tables v_m_words v_m_blank v_m_queue v_d_maps v_d_tables v_d_words v_d_blank v_d_queue v_young v_dropped v_leaving v_ren r_mem r_dsk r_fresh r_young r_dropped r_released r_owed r_counted r_inMemory r_onDisk r_thn r_moved H locs ls hRl hl hP hD hS
      · refine lv_tableIn (off := 264) (tgt := 296) hx hb d_L_32 (by decide) (by decide) (by decide) rfl ?_
        exact w_L_write F Rl h_write cx0 v0 v1 v2 v3 v4 v5 v6 v7 v8 v9 v10 v11 v12 v13 v14 v15 y0 y1 y2 y3 y4 y5 y6 y7 y8 y9 y10 y11 n hL hk kk v_m_maps v_m_tables v_m_words v_m_blank v_m_queue v_d_maps v_d_tables v_d_words v_d_blank v_d_queue v_young v_dropped v_leaving v_ren r_mem r_dsk r_fresh r_young r_dropped r_released r_owed r_counted r_inMemory r_onDisk r_thn r_moved H locs ls hRl hl hP hD hS
      · refine lv_tableIn (off := 307) (tgt := 339) hx hb d_L_32 (by decide) (by decide) (by decide) rfl ?_
        exact w_L_read F Rl h_read cx0 v0 v1 v2 v3 v4 v5 v6 v7 v8 v9 v10 v11 v12 v13 v14 v15 y0 y1 y2 y3 y4 y5 y6 y7 y8 y9 y10 y11 n hL hk kk v_m_maps v_m_tables v_m_words v_m_blank v_m_queue v_d_maps v_d_tables v_d_words v_d_blank v_d_queue v_young v_dropped v_leaving v_ren r_mem r_dsk r_fresh r_young r_dropped r_released r_owed r_counted r_inMemory r_onDisk r_thn r_moved H locs ls hRl hl hP hD hS
      · refine lv_tableIn (off := 340) (tgt := 372) hx hb d_L_32 (by decide) (by decide) (by decide) rfl ?_
        exact w_L_cut F Rl h_cut cx0 v0 v1 v2 v3 v4 v5 v6 v7 v8 v9 v10 v11 v12 v13 v14 v15 y0 y1 y2 y3 y4 y5 y6 y7 y8 y9 y10 y11 n hL hk kk v_m_maps v_m_tables v_m_words v_m_blank v_m_queue v_d_maps v_d_tables v_d_words v_d_blank v_d_queue v_young v_dropped v_leaving v_ren r_mem r_dsk r_fresh r_young r_dropped r_released r_owed r_counted r_inMemory r_onDisk r_thn r_moved H locs ls hRl hl hP hD hS
      · refine lv_tableIn (off := 373) (tgt := 405) hx hb d_L_32 (by decide) (by decide) (by decide) rfl ?_
        exact w_L_lookup F Rl h_lookup cx0 v0 v1 v2 v3 v4 v5 v6 v7 v8 v9 v10 v11 v12 v13 v14 v15 y0 y1 y2 y3 y4 y5 y6 y7 y8 y9 y10 y11 n hL hk kk v_m_maps v_m_tables v_m_words v_m_blank v_m_queue v_d_maps v_d_tables v_d_words v_d_blank v_d_queue v_young v_dropped v_leaving v_ren r_mem r_dsk r_fresh r_young r_dropped r_released r_owed r_counted r_inMemory r_onDisk r_thn r_moved H locs ls hRl hl hP hD hS
      · refine lv_tableIn (off := 406) (tgt := 438) hx hb d_L_32 (by decide) (by decide) (by decide) rfl ?_
        exact w_L_flush F Rl h_flush cx0 v0 v1 v2 v3 v4 v5 v6 v7 v8 v9 v10 v11 v12 v13 v14 v15 y0 y1 y2 y3 y4 y5 y6 y7 y8 y9 y10 y11 n hL hk kk v_m_maps v_m_tables v_m_words v_m_blank v_m_queue v_d_maps v_d_tables v_d_words v_d_blank v_d_queue v_young v_dropped v_leaving v_ren r_mem r_dsk r_fresh r_young r_dropped r_released r_owed r_counted r_inMemory r_onDisk r_thn r_moved H locs ls hRl hl hP hD hS
      · refine lv_tableIn (off := 429) (tgt := 461) hx hb d_L_32 (by decide) (by decide) (by decide) rfl ?_
        exact w_L_sync F Rl h_sync cx0 v0 v1 v2 v3 v4 v5 v6 v7 v8 v9 v10 v11 v12 v13 v14 v15 y0 y1 y2 y3 y4 y5 y6 y7 y8 y9 y10 y11 n hL hk kk v_m_maps v_m_tables v_m_words v_m_blank v_m_queue v_d_maps v_d_tables v_d_words v_d_blank v_d_queue v_young v_dropped v_leaving v_ren r_mem r_dsk r_fresh r_young r_dropped r_released r_owed r_counted r_inMemory r_onDisk r_thn r_moved H locs ls hRl hl hP hD hS
      · refine lv_tableIn (off := 442) (tgt := 474) hx hb d_L_32 (by decide) (by decide) (by decide) rfl ?_
        exact w_L_crash F Rl h_crash cx0 v0 v1 v2 v3 v4 v5 v6 v7 v8 v9 v10 v11 v12 v13 v14 v15 y0 y1 y2 y3 y4 y5 y6 y7 y8 y9 y10 y11 n hL hk kk v_m_maps v_m_tables v_m_words v_m_blank v_m_queue v_d_maps v_d_tables v_d_words v_d_blank v_d_queue v_young v_dropped v_leaving v_ren r_mem r_dsk r_fresh r_young r_dropped r_released r_owed r_counted r_inMemory r_onDisk r_thn r_moved H locs ls hRl hl hP hD hS
      · refine lv_tableIn (off := 455) (tgt := 487) hx hb d_L_32 (by decide) (by decide) (by decide) rfl ?_
        exact w_L_reclaim F Rl h_reclaim cx0 v0 v1 v2 v3 v4 v5 v6 v7 v8 v9 v10 v11 v12 v13 v14 v15 y0 y1 y2 y3 y4 y5 y6 y7 y8 y9 y10 y11 n hL hk kk v_m_maps v_m_tables v_m_words v_m_blank v_m_queue v_d_maps v_d_tables v_d_words v_d_blank v_d_queue v_young v_dropped v_leaving v_ren r_mem r_dsk r_fresh r_young r_dropped r_released r_owed r_counted r_inMemory r_onDisk r_thn r_moved H locs ls hRl hl hP hD hS
      · refine lv_tableIn (off := 468) (tgt := 500) hx hb d_L_32 (by decide) (by decide) (by decide) rfl ?_
        exact w_L_defects F Rl h_defects cx0 v0 v1 v2 v3 v4 v5 v6 v7 v8 v9 v10 v11 v12 v13 v14 v15 y0 y1 y2 y3 y4 y5 y6 y7 y8 y9 y10 y11 n hL hk kk v_m_maps v_m_tables v_m_words v_m_blank v_m_queue v_d_maps v_d_tables v_d_words v_d_blank v_d_queue v_young v_dropped v_leaving v_ren r_mem r_dsk r_fresh r_young r_dropped r_released r_owed r_counted r_inMemory r_onDisk r_thn r_moved H locs ls hRl hl hP hD hS
      · refine lv_tableIn (off := 491) (tgt := 523) hx hb d_L_32 (by decide) (by decide) (by decide) rfl ?_
        exact w_L_image F Rl h_image cx0 v0 v1 v2 v3 v4 v5 v6 v7 v8 v9 v10 v11 v12 v13 v14 v15 y0 y1 y2 y3 y4 y5 y6 y7 y8 y9 y10 y11 n hL hk kk v_m_maps v_m_tables v_m_words v_m_blank v_m_queue v_d_maps v_d_tables v_d_words v_d_blank v_d_queue v_young v_dropped v_leaving v_ren r_mem r_dsk r_fresh r_young r_dropped r_released r_owed r_counted r_inMemory r_onDisk r_thn r_moved H locs ls hRl hl hP hD hS
      · refine lv_tableIn (off := 524) (tgt := 556) hx hb d_L_32 (by decide) (by decide) (by decide) rfl ?_
        exact w_L_cached F Rl h_cached cx0 v0 v1 v2 v3 v4 v5 v6 v7 v8 v9 v10 v11 v12 v13 v14 v15 y0 y1 y2 y3 y4 y5 y6 y7 y8 y9 y10 y11 n hL hk kk v_m_maps v_m_tables v_m_words v_m_blank v_m_queue v_d_maps v_d_tables v_d_words v_d_blank v_d_queue v_young v_dropped v_leaving v_ren r_mem r_dsk r_fresh r_young r_dropped r_released r_owed r_counted r_inMemory r_onDisk r_thn r_moved H locs ls hRl hl hP hD hS
      · refine lv_tableOut (tgt := 589) hx hb d_L_32 (Or.inr (by decide)) rfl ?_
        exact kk v_m_maps v_m_tables v_m_words v_m_blank v_m_queue v_d_maps v_d_tables v_d_words v_d_blank v_d_queue v_young v_dropped v_leaving v_ren r_mem r_dsk r_fresh r_young r_dropped r_released r_owed r_counted r_inMemory r_onDisk r_thn r_moved H locs ls (hRn n v_m_maps v_m_tables v_m_words v_m_blank v_m_queue v_d_maps v_d_tables v_d_words v_d_blank v_d_queue v_young v_dropped v_leaving v_ren r_mem r_dsk r_fresh r_young r_dropped r_released r_owed r_counted r_inMemory r_onDisk r_thn r_moved (by omega) hRl) hl hP hD hS
    · have hlt : nI L - nI 5 < nI (5 * n) ↔ ((L : Int) - 5 < ((5 * n : Nat) : Int)) := by
        rw [Int32.lt_iff_toInt_lt, nI_toInt (by omega)]
        have := pk_sub_toInt (a := L) (b := 5) (by omega) (by omega)
        rw [this]; rfl
      refine lv_iload_n hx hb d_L_18 rfl (lv_at hl 0 rfl) ?_
      refine lv_aload_n hx hb d_L_19 rfl (lv_at hl 1 rfl) ?_
      refine va_slen hx hb hX hbl hbA hS d_L_20 ?_
      refine lv_iconst (v := (nI 5)) hx hb d_L_21 (by decide) ?_
      refine lv_isub hx hb d_L_22 ?_
      refine lv_icmp_gt hx hb d_L_23 rfl (fun hc => ?_) (fun hc => absurd (hlt.mpr (by omega)) hc)
      refine lv_iconst (v := 1) hx hb d_L_595 (by decide) ?_
      exact va_forget (fun q hq => hS.2.2 q hq) (lw_ret hx hb hr hlk d_L_596)
set_option maxHeartbeats 4000000 in
set_option maxRecDepth 100000 in
theorem whole_of {p : Program} {e : Env} {s : State} {m : MethodId} {below : List Frame} {meth : Method} {c : Code} (l : Launch) {b L : Nat} {xs : Nat → Int32} (F : Nat) (Rl : RlT) (h_create : St_create F Rl) (h_link : St_link F Rl) (h_remove : St_remove F Rl) (h_rename : St_rename F Rl) (h_write : St_write F Rl) (h_read : St_read F Rl) (h_cut : St_cut F Rl) (h_lookup : St_lookup F Rl) (h_flush : St_flush F Rl) (h_sync : St_sync F Rl) (h_crash : St_crash F Rl) (h_reclaim : St_reclaim F Rl) (h_defects : St_defects F Rl) (h_image : St_image F Rl) (h_cached : St_cached F Rl) (hRn : ∀ n (v_m_maps : AR) (v_m_tables : AR) (v_m_words : AR) (v_m_blank : AR) (v_m_queue : AR) (v_d_maps : AR) (v_d_tables : AR) (v_d_words : AR) (v_d_blank : AR) (v_d_queue : AR) (v_young : AR) (v_dropped : AR) (v_leaving : AR) (v_ren : Int32) (r_mem : AR) (r_dsk : AR) (r_fresh : AR) (r_young : AR) (r_dropped : AR) (r_released : AR) (r_owed : AR) (r_counted : AR) (r_inMemory : AR) (r_onDisk : AR) (r_thn : AR) (r_moved : Int32), n < 512 → Rl n v_m_maps v_m_tables v_m_words v_m_blank v_m_queue v_d_maps v_d_tables v_d_words v_d_blank v_d_queue v_young v_dropped v_leaving v_ren r_mem r_dsk r_fresh r_young r_dropped r_released r_owed r_counted r_inMemory r_onDisk r_thn r_moved → Rl (n + 1) v_m_maps v_m_tables v_m_words v_m_blank v_m_queue v_d_maps v_d_tables v_d_words v_d_blank v_d_queue v_young v_dropped v_leaving v_ren r_mem r_dsk r_fresh r_young r_dropped r_released r_owed r_counted r_inMemory r_onDisk r_thn r_moved) (h0 : ∀ g : AR, (∀ j, j < 1080 → g j = mR0 j) → (∀ j, 1080 ≤ j → g j = 0) → Rl 0 (upd (upd z0 0 (nI 1)) 6 (nI 1)) (upd (upd (upd z0 0 (nI 2)) 1 (nI 1)) 2 (nI 2)) z0 z0 z0 (upd (upd z0 0 (nI 1)) 6 (nI 1)) (upd (upd (upd z0 0 (nI 2)) 1 (nI 1)) 2 (nI 2)) z0 z0 z0 z0 z0 z0 (nI 0) mR0 g z0 z0 z0 z0 z0 z0 z0 z0 z0 0) (hL : L ≤ 2560) (C0 : lw_At p s m meth c b L xs) : W p l e room_1 s m #[Value.ref b] below meth c s.heap [] 0 0 (lw_Z below #[Value.ref b] s) (entryFrame m ([Value.ref b] : List Value).toArray 4) := by
  obtain ⟨hx, hb, hr, hml, hown, hts, hX, hbl, hlk, hgv⟩ := C0
  have ht : ∀ w ∈ wA, w.before #[Value.ref b] s = true := fun w hw => hts w (List.mem_filter.mp hw).1
  have hN : nw_all s := ⟨va_Nw.of rfl (hts _ (List.mem_append_right _ (List.mem_of_getElem? (i := 181) (by decide +kernel)))), va_Nw.of rfl (hts _ (List.mem_append_right _ (List.mem_of_getElem? (i := 114) (by decide +kernel)))), va_Nw.of rfl (hts _ (List.mem_append_right _ (List.mem_of_getElem? (i := 95) (by decide +kernel)))), va_Nw.of rfl (hts _ (List.mem_append_right _ (List.mem_of_getElem? (i := 364) (by decide +kernel))))⟩
  have iS : (Cond.instantiable R_S 5).before #[Value.ref b] s = true := ht _ (wA_t 13 (by decide +kernel) (by decide +kernel))
  obtain ⟨cS, sS, kS⟩ := u_known (T := F_S) (N := 5) ht in_S iS
  have iV : (Cond.instantiable R_V 6).before #[Value.ref b] s = true := ht _ (wA_t 5 (by decide +kernel) (by decide +kernel))
  obtain ⟨cV, sV, kV⟩ := u_known (T := F_V) (N := 6) ht in_V iV
  have iR : (Cond.instantiable R_R 12).before #[Value.ref b] s = true := ht _ (wA_t 397 (by decide +kernel) (by decide +kernel))
  obtain ⟨cR, sR, kR⟩ := u_known (T := F_R) (N := 12) ht in_R iR
  obtain ⟨cI, kI, pI, fI, gI, dI⟩ := Cond.arrayClass_spec (ht _ ar_int)
  obtain ⟨cZ, kZ, pZ, fZ, gZ, dZ⟩ := Cond.arrayClass_spec (ht _ ar_bool)
  have hK : va_K (fun k => if k = 0 then cS else if k = 1 then cV else cR, fun k => if k = 0 then sS else if k = 1 then sV else sR) clA (tyA cI cZ) s := by
    refine ⟨fun k q hq => ?_, fun k q hq => ?_⟩
    · rcases k with _ | _ | _ | k
      · cases hq; exact kS
      · cases hq; exact kV
      · cases hq; exact kR
      · cases hq
    · rcases k with _ | _ | k
      · cases hq; exact ⟨fun n z => ⟨fun k h => (by cases h), kI, gI, pI, dI⟩, fI⟩
      · cases hq; exact ⟨fun n z => ⟨fun k h => (by cases h), kZ, gZ, pZ, dZ⟩, fZ⟩
      · cases hq
  generalize ((fun k => if k = 0 then cS else if k = 1 then cV else cR, fun k => if k = 0 then sS else if k = 1 then sV else sR) : va_G) = D at hK
  have cf : CallFix p m c code 4 s #[Value.ref b] (o_L :: wA) "OrderedVolumeLaw" := ⟨hx, hb, hml, hown, fun w hw => (List.mem_cons.mp hw).elim (fun h => by rw [h]; exact ht _ (wA_t 0 (by decide +kernel) (by decide +kernel))) (ht w)⟩
  have hA : ∀ q : Nat, s.heap.size ≤ q → (fun q => s.heap.size ≤ q) q := fun q h => h
  have hP : va_P D clA [] s.heap := fun k q h => by cases h
  have hD : va_D (fun q => s.heap.size ≤ q) [] := ⟨fun i j p q h => (by cases h), fun k q h => by cases h⟩
  have hS : va_S (fun q => s.heap.size ≤ q) s.heap s.heap [] := va_S.rf
  have hl := lv_entry [Value.ref b] (n := 4) (Nat.le_of_ble_eq_true rfl)
  rw [lg_entry_eq]
  generalize (lg_sl [Value.ref b] ++ List.replicate (4 - (lg_sl [Value.ref b]).length) Slot.unset).toArray = ls at hl ⊢
  have hl : lv_has ls 4 [(0, .ref b)] := hl
  refine va_new (ci := 1) (fs := [.null, .null, .null, .null, .null, .int 0]) (C := R_V) (T := F_V) (N := 6) hx hb ht in_V t_V t_V_ok hown (ht (.classLink "OrderedVolumeLaw" 7 R_V) (wA_t 4 (by decide +kernel) (by decide +kernel))) (ht (.instantiable R_V 6) (wA_t 5 (by decide +kernel) (by decide +kernel))) (ht (.initialized R_V) (wA_t 1 (by decide +kernel) (by decide +kernel))) hK hP hD hS hA rfl (fun j hj => by rcases (show j = 0 ∨ j = 1 ∨ j = 2 ∨ j = 3 ∨ j = 4 ∨ j = 5 by omega) with rfl | rfl | rfl | rfl | rfl | rfl <;> rfl) (by decide) (by decide) d_L_0 (fun v0 H hP hD hS => ?_)
  refine W.widen (k := 1) (n := 6) (by decide) (by decide) ?_
  refine lv_dup hx hb d_L_3 rfl ?_
  have hP : va_P D clA [(v0, .inr (1, [.null, .null, .null, .null, .null, .int 0]))] H := hP
  have hD : va_D (fun q => s.heap.size ≤ q) [(v0, .inr (1, [.null, .null, .null, .null, .null, .int 0]))] := hD
  have hPc := hP.sub (ws' := [(v0, .inr (1, [.null, .null, .null, .null, .null, .int 0]))]) [0] rfl
  have hDc := hD.sub (ws' := [(v0, .inr (1, [.null, .null, .null, .null, .null, .int 0]))]) [0] (by decide) rfl
  have hFc := va_free (wc := [(v0, .inr (1, [.null, .null, .null, .null, .null, .int 0]))]) hD hS hA [0] rfl
  refine va_callv (va_runI (As := []) (rest := [.ref v0]) cf (c_V_init l D cI cZ v0 H.size) ⟨callB_of 0 ht (wA_in (wA_t 8 (by decide +kernel) (by decide +kernel))) rfl rfl rfl (ht (.initialized R_V) (wA_t 1 (by decide +kernel) (by decide +kernel))) (ht (.methodLink "OrderedVolumeLaw" 9 y_V_init) (wA_t 6 (by decide +kernel) (by decide +kernel))) ⟨by decide, by decide, by decide +kernel⟩ ⟨by decide, by decide⟩, rfl, (ht (.instanceMethod y_V_init) (wA_t 7 (by decide +kernel) (by decide +kernel)))⟩ ⟨sc_blind, sc_pre hK hN hPc hDc⟩ rfl rfl hl.1 rfl (lv_room (Nat.le_of_ble_eq_true rfl)) d_L_4 ⟨by decide, by decide⟩) hS (fun q _ h => hFc q h) hFc (fun u t H1 locs ht1 hvm hw hB hz1 hk1 hS => ?_)
  obtain ⟨w1, hV, hP1, hK1, hD1⟩ := hB
  rw [ht1] at hP1
  obtain ⟨v1, v2, v3, v4, v5, v6, v7, v8, v9, v10, v11, v12, v13, v14, v15, rfl⟩ := hV
  obtain ⟨hP, hD⟩ := va_join (wr := []) hP hD [0] [] rfl rfl (by decide) (by decide) hk1 hFc hP1 hD1
  generalize H1 = H at hP hS ⊢
  have hP : va_P D clA (w_V cI cZ v0 v1 v2 v3 v4 v5 v6 v7 v8 v9 v10 v11 v12 v13 v14 v15 (upd (upd z0 0 (nI 1)) 6 (nI 1)) (upd (upd (upd z0 0 (nI 2)) 1 (nI 1)) 2 (nI 2)) z0 z0 z0 (upd (upd z0 0 (nI 1)) 6 (nI 1)) (upd (upd (upd z0 0 (nI 2)) 1 (nI 1)) 2 (nI 2)) z0 z0 z0 z0 z0 z0 (nI 0)) H := hP
  have hD : va_D (fun q => s.heap.size ≤ q) (w_V cI cZ v0 v1 v2 v3 v4 v5 v6 v7 v8 v9 v10 v11 v12 v13 v14 v15 (upd (upd z0 0 (nI 1)) 6 (nI 1)) (upd (upd (upd z0 0 (nI 2)) 1 (nI 1)) 2 (nI 2)) z0 z0 z0 (upd (upd z0 0 (nI 1)) 6 (nI 1)) (upd (upd (upd z0 0 (nI 2)) 1 (nI 1)) 2 (nI 2)) z0 z0 z0 z0 z0 z0 (nI 0)) := hD
  refine W.widen (k := 16) (n := 1066) (by decide) (by decide) ?_
  refine lv_astore_n (lv' := [(1, .ref v0), (0, .ref b)]) hx hb d_L_7 rfl hl (by decide) rfl (fun ls hl => ?_)
  refine va_new (ci := 2) (fs := [.null, .null, .null, .null, .null, .null, .null, .null, .null, .null, .null, .int 0]) (C := R_R) (T := F_R) (N := 12) hx hb ht in_R t_R t_R_ok hown (ht (.classLink "OrderedVolumeLaw" 10 R_R) (wA_t 396 (by decide +kernel) (by decide +kernel))) (ht (.instantiable R_R 12) (wA_t 397 (by decide +kernel) (by decide +kernel))) (ht (.initialized R_R) (wA_t 3 (by decide +kernel) (by decide +kernel))) hK hP hD hS hA rfl (fun j hj => by rcases (show j = 0 ∨ j = 1 ∨ j = 2 ∨ j = 3 ∨ j = 4 ∨ j = 5 ∨ j = 6 ∨ j = 7 ∨ j = 8 ∨ j = 9 ∨ j = 10 ∨ j = 11 by omega) with rfl | rfl | rfl | rfl | rfl | rfl | rfl | rfl | rfl | rfl | rfl | rfl <;> rfl) (by decide) (by decide) d_L_8 (fun y0 H hP hD hS => ?_)
  refine W.widen (k := 17) (n := 1078) (by decide) (by decide) ?_
  refine lv_dup hx hb d_L_11 rfl ?_
  have hP : va_P D clA ((w_V cI cZ v0 v1 v2 v3 v4 v5 v6 v7 v8 v9 v10 v11 v12 v13 v14 v15 (upd (upd z0 0 (nI 1)) 6 (nI 1)) (upd (upd (upd z0 0 (nI 2)) 1 (nI 1)) 2 (nI 2)) z0 z0 z0 (upd (upd z0 0 (nI 1)) 6 (nI 1)) (upd (upd (upd z0 0 (nI 2)) 1 (nI 1)) 2 (nI 2)) z0 z0 z0 z0 z0 z0 (nI 0)) ++ [(y0, .inr (2, [.null, .null, .null, .null, .null, .null, .null, .null, .null, .null, .null, .int 0]))]) H := hP
  have hD : va_D (fun q => s.heap.size ≤ q) ((w_V cI cZ v0 v1 v2 v3 v4 v5 v6 v7 v8 v9 v10 v11 v12 v13 v14 v15 (upd (upd z0 0 (nI 1)) 6 (nI 1)) (upd (upd (upd z0 0 (nI 2)) 1 (nI 1)) 2 (nI 2)) z0 z0 z0 (upd (upd z0 0 (nI 1)) 6 (nI 1)) (upd (upd (upd z0 0 (nI 2)) 1 (nI 1)) 2 (nI 2)) z0 z0 z0 z0 z0 z0 (nI 0)) ++ [(y0, .inr (2, [.null, .null, .null, .null, .null, .null, .null, .null, .null, .null, .null, .int 0]))]) := hD
  have hPc := hP.sub (ws' := [(y0, .inr (2, [.null, .null, .null, .null, .null, .null, .null, .null, .null, .null, .null, .int 0]))]) [16] rfl
  have hDc := hD.sub (ws' := [(y0, .inr (2, [.null, .null, .null, .null, .null, .null, .null, .null, .null, .null, .null, .int 0]))]) [16] (by decide) rfl
  have hFc := va_free (wc := [(y0, .inr (2, [.null, .null, .null, .null, .null, .null, .null, .null, .null, .null, .null, .int 0]))]) hD hS hA [16] rfl
  refine va_callv (va_runI (As := []) (rest := [.ref y0]) cf (c_R_init l D cI cZ y0 H.size) ⟨callB_of 0 ht (wA_in (wA_t 400 (by decide +kernel) (by decide +kernel))) rfl rfl rfl (ht (.initialized R_R) (wA_t 3 (by decide +kernel) (by decide +kernel))) (ht (.methodLink "OrderedVolumeLaw" 12 y_R_init) (wA_t 398 (by decide +kernel) (by decide +kernel))) ⟨by decide, by decide, by decide +kernel⟩ ⟨by decide, by decide⟩, rfl, (ht (.instanceMethod y_R_init) (wA_t 399 (by decide +kernel) (by decide +kernel)))⟩ ⟨sc_blind, sc_pre hK hN hPc hDc⟩ rfl rfl hl.1 rfl (lv_room (Nat.le_of_ble_eq_true rfl)) d_L_12 ⟨by decide, by decide⟩) hS (fun q _ h => hFc q h) hFc (fun u t H1 locs ht1 hvm hw hB hz1 hk1 hS => ?_)
  obtain ⟨w1, hV, hP1, hK1, hD1⟩ := hB
  rw [ht1] at hP1
  obtain ⟨y1, y2, y3, y4, y5, y6, y7, y8, y9, y10, y11, g, hg, hg0, rfl⟩ := hV
  obtain ⟨hP, hD⟩ := va_join (wr := (w_V cI cZ v0 v1 v2 v3 v4 v5 v6 v7 v8 v9 v10 v11 v12 v13 v14 v15 (upd (upd z0 0 (nI 1)) 6 (nI 1)) (upd (upd (upd z0 0 (nI 2)) 1 (nI 1)) 2 (nI 2)) z0 z0 z0 (upd (upd z0 0 (nI 1)) 6 (nI 1)) (upd (upd (upd z0 0 (nI 2)) 1 (nI 1)) 2 (nI 2)) z0 z0 z0 z0 z0 z0 (nI 0))) hP hD [16] [0, 1, 2, 3, 4, 5, 6, 7, 8, 9, 10, 11, 12, 13, 14, 15] rfl rfl (by decide) (by decide) hk1 hFc hP1 hD1
  generalize H1 = H at hP hS ⊢
  have hP : va_P D clA ((w_V cI cZ v0 v1 v2 v3 v4 v5 v6 v7 v8 v9 v10 v11 v12 v13 v14 v15 (upd (upd z0 0 (nI 1)) 6 (nI 1)) (upd (upd (upd z0 0 (nI 2)) 1 (nI 1)) 2 (nI 2)) z0 z0 z0 (upd (upd z0 0 (nI 1)) 6 (nI 1)) (upd (upd (upd z0 0 (nI 2)) 1 (nI 1)) 2 (nI 2)) z0 z0 z0 z0 z0 z0 (nI 0)) ++ w_R cI cZ y0 y1 y2 y3 y4 y5 y6 y7 y8 y9 y10 y11 mR0 g z0 z0 z0 z0 z0 z0 z0 z0 z0 0) H := hP
  have hD : va_D (fun q => s.heap.size ≤ q) ((w_V cI cZ v0 v1 v2 v3 v4 v5 v6 v7 v8 v9 v10 v11 v12 v13 v14 v15 (upd (upd z0 0 (nI 1)) 6 (nI 1)) (upd (upd (upd z0 0 (nI 2)) 1 (nI 1)) 2 (nI 2)) z0 z0 z0 (upd (upd z0 0 (nI 1)) 6 (nI 1)) (upd (upd (upd z0 0 (nI 2)) 1 (nI 1)) 2 (nI 2)) z0 z0 z0 z0 z0 z0 (nI 0)) ++ w_R cI cZ y0 y1 y2 y3 y4 y5 y6 y7 y8 y9 y10 y11 mR0 g z0 z0 z0 z0 z0 z0 z0 z0 z0 0) := hD
  refine W.widen (k := 28) (n := 3706) (by decide) (by decide) ?_
  refine lv_astore_n (lv' := [(2, .ref y0), (1, .ref v0), (0, .ref b)]) hx hb d_L_15 rfl hl (by decide) rfl (fun ls hl => ?_)
  refine lv_iconst (v := (nI 0)) hx hb d_L_16 (by decide) ?_
  refine lv_istore_n (lv' := [(3, .int (nI 0)), (2, .ref y0), (1, .ref v0), (0, .ref b)]) hx hb d_L_17 rfl hl (by decide) rfl (fun ls hl => ?_)
  exact w_L_head F Rl h_create h_link h_remove h_rename h_write h_read h_cut h_lookup h_flush h_sync h_crash h_reclaim h_defects h_image h_cached hRn ⟨cf, hr, hlk, hK, hN, hX, hbl⟩ v0 v1 v2 v3 v4 v5 v6 v7 v8 v9 v10 v11 v12 v13 v14 v15 y0 y1 y2 y3 y4 y5 y6 y7 y8 y9 y10 y11 hL (L + 1) 0 (by omega) (by omega) (upd (upd z0 0 (nI 1)) 6 (nI 1)) (upd (upd (upd z0 0 (nI 2)) 1 (nI 1)) 2 (nI 2)) z0 z0 z0 (upd (upd z0 0 (nI 1)) 6 (nI 1)) (upd (upd (upd z0 0 (nI 2)) 1 (nI 1)) 2 (nI 2)) z0 z0 z0 z0 z0 z0 (nI 0) mR0 g z0 z0 z0 z0 z0 z0 z0 z0 z0 0 H locs ls (h0 g hg hg0) (lv_sub hl [0, 3, 2, 1] rfl) hP hD hS
