def R_law : String := "KiteStringsLaw"
def lw_P (b : Addr) (xs : List Int32) (args : Array Value) (s : State) : Prop := args = #[.ref b] ∧ s.IntsAt b xs ∧ xs.length ≤ 260 ∧ (Jvm.Cond.and given_1 narrow_1).before args s = true
def lw_Q (_ : Array Value) (s : State) (o : Outcome) (t : State) : Prop := o = .returned (some (.int 1)) ∧ Framed s o t [] 600000 7302250
def lw_Z (below : List Frame) (a : Array Value) (s : State) : State → Prop := fun t => ∃ o, t.status = .running ∧ Ended t below o ∧ lw_Q a s o t
/-- the law's own end, with 1 on the stack, nothing written that was there before, its room as the claim has it -/
theorem lw_ret {p : Program} {l : Launch} {e : Env} {s : State} {m : MethodId} {below : List Frame} {meth : Method} {c : Code} {b : Nat} (hx : p.tables.exec = Jvm.exec) (hb : c.code = code) (hr : meth.sig.returnType = ret) (hlocks : meth.locks = false) {pc : Nat} {H : Heap} {ls : Array Slot} (hdg : decode code pc = .ok (.ireturn, 1)) : W p l e room_1 s m #[Value.ref b] below meth c H [] 600000 7302250 (lw_Z below #[Value.ref b] s) (F0 m pc ls [.int 1]) := by
  intro T hT X
  obtain ⟨fs, hret, hrun, hended, hW, hframe⟩ := X.leave (v := some (.int 1)) (hlocks := hlocks) (fun h => by rw [hr] at h; cases h)
  have hmeth' : T.vm.method? m = some meth := X.method'
  refine ⟨T.setFrames fs, ?_, .returned (some (.int 1)), hrun, hended, rfl, ⟨_, rfl⟩, hW, hframe⟩
  jvm_step X.here [X.here.top, hx, hb, hdg, hmeth', hr, ret, narrow_b1]
  (try refine ⟨rfl, ?_⟩); (try refine ⟨rfl, ?_⟩)
  first | (intro acts; rw [hret _ acts rfl rfl rfl]) | rw [hret _ _ rfl rfl rfl]
  exact Steps.refl _
/-- what holds at the law's entry: the machine, the code, the tables' words (any of lw_tbl by 'hts w (by decide +kernel)'), the script of L ints xs at the cell b, what the Statement gives of the start (any of its parts by flat_of_before) -/
def lw_At (p : Program) (s : State) (m : MethodId) (meth : Method) (c : Code) (b L : Nat) (xs : Nat → Int32) : Prop :=
  p.tables.exec = Jvm.exec ∧ c.code = code ∧ meth.sig.returnType = ret ∧ c.maxLocals = 21 ∧ s.vm.findClass R_law = some m.cls ∧ (∀ w ∈ lw_tbl, w.before #[Value.ref b] s = true) ∧ va_X b L xs s s.heap ∧ b < s.heap.size ∧ meth.locks = false ∧ (Jvm.Cond.and given_1 narrow_1).before #[Value.ref b] s = true
theorem dL_law_0 : decode cL_law 0 = .ok (.new 32, 3) := by decide +kernel
theorem dL_law_3 : decode cL_law 3 = .ok (.dup, 1) := by decide +kernel
theorem dL_law_4 : decode cL_law 4 = .ok (.invokespecial 66, 3) := by decide +kernel
theorem dL_law_7 : decode cL_law 7 = .ok (.astore_n 1, 1) := by decide +kernel
theorem dL_law_8 : decode cL_law 8 = .ok (.iconst 4, 1) := by decide +kernel
theorem dL_law_9 : decode cL_law 9 = .ok (.newarray .int, 2) := by decide +kernel
theorem dL_law_11 : decode cL_law 11 = .ok (.astore_n 2, 1) := by decide +kernel
theorem dL_law_12 : decode cL_law 12 = .ok (.bipush 48, 2) := by decide +kernel
theorem dL_law_14 : decode cL_law 14 = .ok (.newarray .int, 2) := by decide +kernel
theorem dL_law_16 : decode cL_law 16 = .ok (.astore_n 3, 1) := by decide +kernel
theorem dL_law_17 : decode cL_law 17 = .ok (.bipush 64, 2) := by decide +kernel
theorem dL_law_19 : decode cL_law 19 = .ok (.newarray .int, 2) := by decide +kernel
theorem dL_law_21 : decode cL_law 21 = .ok (.astore 4, 2) := by decide +kernel
theorem dL_law_23 : decode cL_law 23 = .ok (.bipush 64, 2) := by decide +kernel
theorem dL_law_25 : decode cL_law 25 = .ok (.newarray .int, 2) := by decide +kernel
theorem dL_law_27 : decode cL_law 27 = .ok (.astore 5, 2) := by decide +kernel
theorem dL_law_29 : decode cL_law 29 = .ok (.bipush 16, 2) := by decide +kernel
theorem dL_law_31 : decode cL_law 31 = .ok (.newarray .int, 2) := by decide +kernel
theorem dL_law_33 : decode cL_law 33 = .ok (.astore 6, 2) := by decide +kernel
theorem dL_law_35 : decode cL_law 35 = .ok (.iconst 4, 1) := by decide +kernel
theorem dL_law_36 : decode cL_law 36 = .ok (.newarray .int, 2) := by decide +kernel
theorem dL_law_38 : decode cL_law 38 = .ok (.astore 7, 2) := by decide +kernel
theorem dL_law_40 : decode cL_law 40 = .ok (.bipush 48, 2) := by decide +kernel
theorem dL_law_42 : decode cL_law 42 = .ok (.newarray .int, 2) := by decide +kernel
theorem dL_law_44 : decode cL_law 44 = .ok (.astore 8, 2) := by decide +kernel
theorem dL_law_46 : decode cL_law 46 = .ok (.bipush 64, 2) := by decide +kernel
theorem dL_law_48 : decode cL_law 48 = .ok (.newarray .int, 2) := by decide +kernel
theorem dL_law_50 : decode cL_law 50 = .ok (.astore 9, 2) := by decide +kernel
theorem dL_law_52 : decode cL_law 52 = .ok (.bipush 64, 2) := by decide +kernel
theorem dL_law_54 : decode cL_law 54 = .ok (.newarray .int, 2) := by decide +kernel
theorem dL_law_56 : decode cL_law 56 = .ok (.astore 10, 2) := by decide +kernel
theorem dL_law_58 : decode cL_law 58 = .ok (.iconst 0, 1) := by decide +kernel
theorem dL_law_59 : decode cL_law 59 = .ok (.istore 11, 2) := by decide +kernel
theorem dL_law_61 : decode cL_law 61 = .ok (.iload 11, 2) := by decide +kernel
theorem dL_law_63 : decode cL_law 63 = .ok (.bipush 22, 2) := by decide +kernel
theorem dL_law_65 : decode cL_law 65 = .ok (.if_icmp .ge 912, 3) := by decide +kernel
theorem dL_law_68 : decode cL_law 68 = .ok (.aload_n 0, 1) := by decide +kernel
theorem dL_law_69 : decode cL_law 69 = .ok (.iconst 2, 1) := by decide +kernel
theorem dL_law_70 : decode cL_law 70 = .ok (.iload 11, 2) := by decide +kernel
theorem dL_law_72 : decode cL_law 72 = .ok (.imul, 1) := by decide +kernel
theorem dL_law_73 : decode cL_law 73 = .ok (.invokestatic 67, 3) := by decide +kernel
theorem dL_law_76 : decode cL_law 76 = .ok (.istore 12, 2) := by decide +kernel
theorem dL_law_78 : decode cL_law 78 = .ok (.aload_n 0, 1) := by decide +kernel
theorem dL_law_79 : decode cL_law 79 = .ok (.iconst 2, 1) := by decide +kernel
theorem dL_law_80 : decode cL_law 80 = .ok (.iload 11, 2) := by decide +kernel
theorem dL_law_82 : decode cL_law 82 = .ok (.imul, 1) := by decide +kernel
theorem dL_law_83 : decode cL_law 83 = .ok (.iconst 1, 1) := by decide +kernel
theorem dL_law_84 : decode cL_law 84 = .ok (.iadd, 1) := by decide +kernel
theorem dL_law_85 : decode cL_law 85 = .ok (.invokestatic 67, 3) := by decide +kernel
theorem dL_law_88 : decode cL_law 88 = .ok (.istore 13, 2) := by decide +kernel
theorem dL_law_90 : decode cL_law 90 = .ok (.iload 11, 2) := by decide +kernel
theorem dL_law_92 : decode cL_law 92 = .ok (.iconst 3, 1) := by decide +kernel
theorem dL_law_93 : decode cL_law 93 = .ok (.if_icmp .ge 7, 3) := by decide +kernel
theorem dL_law_96 : decode cL_law 96 = .ok (.iconst 0, 1) := by decide +kernel
theorem dL_law_97 : decode cL_law 97 = .ok (.goto 10, 3) := by decide +kernel
theorem dL_law_100 : decode cL_law 100 = .ok (.iload 12, 2) := by decide +kernel
theorem dL_law_102 : decode cL_law 102 = .ok (.bipush 10, 2) := by decide +kernel
theorem dL_law_104 : decode cL_law 104 = .ok (.invokestatic 50, 3) := by decide +kernel
theorem dL_law_107 : decode cL_law 107 = .ok (.istore 14, 2) := by decide +kernel
theorem dL_law_109 : decode cL_law 109 = .ok (.aload_n 2, 1) := by decide +kernel
theorem dL_law_110 : decode cL_law 110 = .ok (.iconst 0, 1) := by decide +kernel
theorem dL_law_111 : decode cL_law 111 = .ok (.iaload, 1) := by decide +kernel
theorem dL_law_112 : decode cL_law 112 = .ok (.ifCond .ne 7, 3) := by decide +kernel
theorem dL_law_115 : decode cL_law 115 = .ok (.iconst 0, 1) := by decide +kernel
theorem dL_law_116 : decode cL_law 116 = .ok (.goto 13, 3) := by decide +kernel
theorem dL_law_119 : decode cL_law 119 = .ok (.iload 12, 2) := by decide +kernel
theorem dL_law_121 : decode cL_law 121 = .ok (.iconst 4, 1) := by decide +kernel
theorem dL_law_122 : decode cL_law 122 = .ok (.ishr, 1) := by decide +kernel
theorem dL_law_123 : decode cL_law 123 = .ok (.aload_n 2, 1) := by decide +kernel
theorem dL_law_124 : decode cL_law 124 = .ok (.iconst 0, 1) := by decide +kernel
theorem dL_law_125 : decode cL_law 125 = .ok (.iaload, 1) := by decide +kernel
theorem dL_law_126 : decode cL_law 126 = .ok (.invokestatic 50, 3) := by decide +kernel
theorem dL_law_129 : decode cL_law 129 = .ok (.istore 15, 2) := by decide +kernel
theorem dL_law_131 : decode cL_law 131 = .ok (.bipush 12, 2) := by decide +kernel
theorem dL_law_133 : decode cL_law 133 = .ok (.iload 15, 2) := by decide +kernel
theorem dL_law_135 : decode cL_law 135 = .ok (.imul, 1) := by decide +kernel
theorem dL_law_136 : decode cL_law 136 = .ok (.istore 16, 2) := by decide +kernel
theorem dL_law_138 : decode cL_law 138 = .ok (.aload_n 2, 1) := by decide +kernel
theorem dL_law_139 : decode cL_law 139 = .ok (.iconst 0, 1) := by decide +kernel
theorem dL_law_140 : decode cL_law 140 = .ok (.iaload, 1) := by decide +kernel
theorem dL_law_141 : decode cL_law 141 = .ok (.ifCond .le 17, 3) := by decide +kernel
theorem dL_law_144 : decode cL_law 144 = .ok (.aload_n 3, 1) := by decide +kernel
theorem dL_law_145 : decode cL_law 145 = .ok (.iload 16, 2) := by decide +kernel
theorem dL_law_147 : decode cL_law 147 = .ok (.bipush 8, 2) := by decide +kernel
theorem dL_law_149 : decode cL_law 149 = .ok (.iadd, 1) := by decide +kernel
theorem dL_law_150 : decode cL_law 150 = .ok (.iaload, 1) := by decide +kernel
theorem dL_law_151 : decode cL_law 151 = .ok (.ifCond .ne 7, 3) := by decide +kernel
theorem dL_law_154 : decode cL_law 154 = .ok (.iconst 1, 1) := by decide +kernel
theorem dL_law_155 : decode cL_law 155 = .ok (.goto 4, 3) := by decide +kernel
theorem dL_law_158 : decode cL_law 158 = .ok (.iconst 0, 1) := by decide +kernel
theorem dL_law_159 : decode cL_law 159 = .ok (.istore 17, 2) := by decide +kernel
theorem dL_law_161 : decode cL_law 161 = .ok (.iload 14, 2) := by decide +kernel
theorem dL_law_163 : decode cL_law 163 = .ok (.ifCond .ne 231, 3) := by decide +kernel
theorem dL_law_166 : decode cL_law 166 = .ok (.aload_n 2, 1) := by decide +kernel
theorem dL_law_167 : decode cL_law 167 = .ok (.iconst 0, 1) := by decide +kernel
theorem dL_law_168 : decode cL_law 168 = .ok (.iaload, 1) := by decide +kernel
theorem dL_law_169 : decode cL_law 169 = .ok (.iconst 4, 1) := by decide +kernel
theorem dL_law_170 : decode cL_law 170 = .ok (.if_icmp .ge 224, 3) := by decide +kernel
theorem dL_law_173 : decode cL_law 173 = .ok (.bipush 12, 2) := by decide +kernel
theorem dL_law_175 : decode cL_law 175 = .ok (.aload_n 2, 1) := by decide +kernel
theorem dL_law_176 : decode cL_law 176 = .ok (.iconst 0, 1) := by decide +kernel
theorem dL_law_177 : decode cL_law 177 = .ok (.iaload, 1) := by decide +kernel
theorem dL_law_178 : decode cL_law 178 = .ok (.imul, 1) := by decide +kernel
theorem dL_law_179 : decode cL_law 179 = .ok (.istore 18, 2) := by decide +kernel
theorem dL_law_181 : decode cL_law 181 = .ok (.iconst 0, 1) := by decide +kernel
theorem dL_law_182 : decode cL_law 182 = .ok (.istore 19, 2) := by decide +kernel
theorem dL_law_184 : decode cL_law 184 = .ok (.iload 19, 2) := by decide +kernel
theorem dL_law_186 : decode cL_law 186 = .ok (.bipush 12, 2) := by decide +kernel
theorem dL_law_188 : decode cL_law 188 = .ok (.if_icmp .ge 17, 3) := by decide +kernel
theorem dL_law_191 : decode cL_law 191 = .ok (.aload_n 3, 1) := by decide +kernel
theorem dL_law_192 : decode cL_law 192 = .ok (.iload 18, 2) := by decide +kernel
theorem dL_law_194 : decode cL_law 194 = .ok (.iload 19, 2) := by decide +kernel
theorem dL_law_196 : decode cL_law 196 = .ok (.iadd, 1) := by decide +kernel
theorem dL_law_197 : decode cL_law 197 = .ok (.iconst 0, 1) := by decide +kernel
theorem dL_law_198 : decode cL_law 198 = .ok (.iastore, 1) := by decide +kernel
theorem dL_law_199 : decode cL_law 199 = .ok (.iinc 19 1, 3) := by decide +kernel
theorem dL_law_202 : decode cL_law 202 = .ok (.goto (-18), 3) := by decide +kernel
theorem dL_law_205 : decode cL_law 205 = .ok (.aload_n 3, 1) := by decide +kernel
theorem dL_law_206 : decode cL_law 206 = .ok (.iload 18, 2) := by decide +kernel
theorem dL_law_208 : decode cL_law 208 = .ok (.iload 12, 2) := by decide +kernel
theorem dL_law_210 : decode cL_law 210 = .ok (.iconst 5, 1) := by decide +kernel
theorem dL_law_211 : decode cL_law 211 = .ok (.ishr, 1) := by decide +kernel
theorem dL_law_212 : decode cL_law 212 = .ok (.bipush 64, 2) := by decide +kernel
theorem dL_law_214 : decode cL_law 214 = .ok (.invokestatic 50, 3) := by decide +kernel
theorem dL_law_217 : decode cL_law 217 = .ok (.iastore, 1) := by decide +kernel
theorem dL_law_218 : decode cL_law 218 = .ok (.aload_n 3, 1) := by decide +kernel
theorem dL_law_219 : decode cL_law 219 = .ok (.iload 18, 2) := by decide +kernel
theorem dL_law_221 : decode cL_law 221 = .ok (.iconst 1, 1) := by decide +kernel
theorem dL_law_222 : decode cL_law 222 = .ok (.iadd, 1) := by decide +kernel
theorem dL_law_223 : decode cL_law 223 = .ok (.iload 12, 2) := by decide +kernel
theorem dL_law_225 : decode cL_law 225 = .ok (.bipush 11, 2) := by decide +kernel
theorem dL_law_227 : decode cL_law 227 = .ok (.ishr, 1) := by decide +kernel
theorem dL_law_228 : decode cL_law 228 = .ok (.bipush 64, 2) := by decide +kernel
theorem dL_law_230 : decode cL_law 230 = .ok (.invokestatic 50, 3) := by decide +kernel
theorem dL_law_233 : decode cL_law 233 = .ok (.iastore, 1) := by decide +kernel
theorem dL_law_234 : decode cL_law 234 = .ok (.aload_n 3, 1) := by decide +kernel
theorem dL_law_235 : decode cL_law 235 = .ok (.iload 18, 2) := by decide +kernel
theorem dL_law_237 : decode cL_law 237 = .ok (.iconst 2, 1) := by decide +kernel
theorem dL_law_238 : decode cL_law 238 = .ok (.iadd, 1) := by decide +kernel
theorem dL_law_239 : decode cL_law 239 = .ok (.iconst 1, 1) := by decide +kernel
theorem dL_law_240 : decode cL_law 240 = .ok (.iload 13, 2) := by decide +kernel
theorem dL_law_242 : decode cL_law 242 = .ok (.bipush 47, 2) := by decide +kernel
theorem dL_law_244 : decode cL_law 244 = .ok (.invokestatic 50, 3) := by decide +kernel
theorem dL_law_247 : decode cL_law 247 = .ok (.iadd, 1) := by decide +kernel
theorem dL_law_248 : decode cL_law 248 = .ok (.iastore, 1) := by decide +kernel
theorem dL_law_249 : decode cL_law 249 = .ok (.aload_n 3, 1) := by decide +kernel
theorem dL_law_250 : decode cL_law 250 = .ok (.iload 18, 2) := by decide +kernel
theorem dL_law_252 : decode cL_law 252 = .ok (.iconst 5, 1) := by decide +kernel
theorem dL_law_253 : decode cL_law 253 = .ok (.iadd, 1) := by decide +kernel
theorem dL_law_254 : decode cL_law 254 = .ok (.iload 13, 2) := by decide +kernel
theorem dL_law_256 : decode cL_law 256 = .ok (.bipush 6, 2) := by decide +kernel
theorem dL_law_258 : decode cL_law 258 = .ok (.ishr, 1) := by decide +kernel
theorem dL_law_259 : decode cL_law 259 = .ok (.bipush 6, 2) := by decide +kernel
theorem dL_law_261 : decode cL_law 261 = .ok (.invokestatic 50, 3) := by decide +kernel
theorem dL_law_264 : decode cL_law 264 = .ok (.iastore, 1) := by decide +kernel
theorem dL_law_265 : decode cL_law 265 = .ok (.aload_n 3, 1) := by decide +kernel
theorem dL_law_266 : decode cL_law 266 = .ok (.iload 18, 2) := by decide +kernel
theorem dL_law_268 : decode cL_law 268 = .ok (.bipush 6, 2) := by decide +kernel
theorem dL_law_270 : decode cL_law 270 = .ok (.iadd, 1) := by decide +kernel
theorem dL_law_271 : decode cL_law 271 = .ok (.bipush 10, 2) := by decide +kernel
theorem dL_law_273 : decode cL_law 273 = .ok (.iload 13, 2) := by decide +kernel
theorem dL_law_275 : decode cL_law 275 = .ok (.bipush 9, 2) := by decide +kernel
theorem dL_law_277 : decode cL_law 277 = .ok (.ishr, 1) := by decide +kernel
theorem dL_law_278 : decode cL_law 278 = .ok (.iload 13, 2) := by decide +kernel
theorem dL_law_280 : decode cL_law 280 = .ok (.iconst 3, 1) := by decide +kernel
theorem dL_law_281 : decode cL_law 281 = .ok (.invokestatic 50, 3) := by decide +kernel
theorem dL_law_284 : decode cL_law 284 = .ok (.ifCond .ne 9, 3) := by decide +kernel
theorem dL_law_287 : decode cL_law 287 = .ok (.sipush 191, 3) := by decide +kernel
theorem dL_law_290 : decode cL_law 290 = .ok (.goto 5, 3) := by decide +kernel
theorem dL_law_293 : decode cL_law 293 = .ok (.bipush 30, 2) := by decide +kernel
theorem dL_law_295 : decode cL_law 295 = .ok (.invokestatic 50, 3) := by decide +kernel
theorem dL_law_298 : decode cL_law 298 = .ok (.iadd, 1) := by decide +kernel
theorem dL_law_299 : decode cL_law 299 = .ok (.iastore, 1) := by decide +kernel
theorem dL_law_300 : decode cL_law 300 = .ok (.aload_n 3, 1) := by decide +kernel
theorem dL_law_301 : decode cL_law 301 = .ok (.aload 8, 2) := by decide +kernel
theorem dL_law_303 : decode cL_law 303 = .ok (.bipush 48, 2) := by decide +kernel
theorem dL_law_305 : decode cL_law 305 = .ok (.invokestatic 46, 3) := by decide +kernel
theorem dL_law_308 : decode cL_law 308 = .ok (.aload_n 3, 1) := by decide +kernel
theorem dL_law_309 : decode cL_law 309 = .ok (.iload 18, 2) := by decide +kernel
theorem dL_law_311 : decode cL_law 311 = .ok (.bipush 9, 2) := by decide +kernel
theorem dL_law_313 : decode cL_law 313 = .ok (.iadd, 1) := by decide +kernel
theorem dL_law_314 : decode cL_law 314 = .ok (.aload_n 3, 1) := by decide +kernel
theorem dL_law_315 : decode cL_law 315 = .ok (.iload 18, 2) := by decide +kernel
theorem dL_law_317 : decode cL_law 317 = .ok (.iaload, 1) := by decide +kernel
theorem dL_law_318 : decode cL_law 318 = .ok (.iastore, 1) := by decide +kernel
theorem dL_law_319 : decode cL_law 319 = .ok (.aload_n 3, 1) := by decide +kernel
theorem dL_law_320 : decode cL_law 320 = .ok (.iload 18, 2) := by decide +kernel
theorem dL_law_322 : decode cL_law 322 = .ok (.bipush 10, 2) := by decide +kernel
theorem dL_law_324 : decode cL_law 324 = .ok (.iadd, 1) := by decide +kernel
theorem dL_law_325 : decode cL_law 325 = .ok (.aload_n 3, 1) := by decide +kernel
theorem dL_law_326 : decode cL_law 326 = .ok (.iload 18, 2) := by decide +kernel
theorem dL_law_328 : decode cL_law 328 = .ok (.iconst 1, 1) := by decide +kernel
theorem dL_law_329 : decode cL_law 329 = .ok (.iadd, 1) := by decide +kernel
theorem dL_law_330 : decode cL_law 330 = .ok (.iaload, 1) := by decide +kernel
theorem dL_law_331 : decode cL_law 331 = .ok (.iastore, 1) := by decide +kernel
theorem dL_law_332 : decode cL_law 332 = .ok (.aload_n 3, 1) := by decide +kernel
theorem dL_law_333 : decode cL_law 333 = .ok (.iload 18, 2) := by decide +kernel
theorem dL_law_335 : decode cL_law 335 = .ok (.bipush 11, 2) := by decide +kernel
theorem dL_law_337 : decode cL_law 337 = .ok (.iadd, 1) := by decide +kernel
theorem dL_law_338 : decode cL_law 338 = .ok (.aload_n 3, 1) := by decide +kernel
theorem dL_law_339 : decode cL_law 339 = .ok (.iload 18, 2) := by decide +kernel
theorem dL_law_341 : decode cL_law 341 = .ok (.iconst 2, 1) := by decide +kernel
theorem dL_law_342 : decode cL_law 342 = .ok (.iadd, 1) := by decide +kernel
theorem dL_law_343 : decode cL_law 343 = .ok (.iaload, 1) := by decide +kernel
theorem dL_law_344 : decode cL_law 344 = .ok (.iastore, 1) := by decide +kernel
theorem dL_law_345 : decode cL_law 345 = .ok (.aload_n 1, 1) := by decide +kernel
theorem dL_law_346 : decode cL_law 346 = .ok (.aload_n 3, 1) := by decide +kernel
theorem dL_law_347 : decode cL_law 347 = .ok (.iload 18, 2) := by decide +kernel
theorem dL_law_349 : decode cL_law 349 = .ok (.iaload, 1) := by decide +kernel
theorem dL_law_350 : decode cL_law 350 = .ok (.aload_n 3, 1) := by decide +kernel
theorem dL_law_351 : decode cL_law 351 = .ok (.iload 18, 2) := by decide +kernel
theorem dL_law_353 : decode cL_law 353 = .ok (.iconst 1, 1) := by decide +kernel
theorem dL_law_354 : decode cL_law 354 = .ok (.iadd, 1) := by decide +kernel
theorem dL_law_355 : decode cL_law 355 = .ok (.iaload, 1) := by decide +kernel
theorem dL_law_356 : decode cL_law 356 = .ok (.aload_n 3, 1) := by decide +kernel
theorem dL_law_357 : decode cL_law 357 = .ok (.iload 18, 2) := by decide +kernel
theorem dL_law_359 : decode cL_law 359 = .ok (.iconst 2, 1) := by decide +kernel
theorem dL_law_360 : decode cL_law 360 = .ok (.iadd, 1) := by decide +kernel
theorem dL_law_361 : decode cL_law 361 = .ok (.iaload, 1) := by decide +kernel
theorem dL_law_362 : decode cL_law 362 = .ok (.aload_n 3, 1) := by decide +kernel
theorem dL_law_363 : decode cL_law 363 = .ok (.iload 18, 2) := by decide +kernel
theorem dL_law_365 : decode cL_law 365 = .ok (.iconst 5, 1) := by decide +kernel
theorem dL_law_366 : decode cL_law 366 = .ok (.iadd, 1) := by decide +kernel
theorem dL_law_367 : decode cL_law 367 = .ok (.iaload, 1) := by decide +kernel
theorem dL_law_368 : decode cL_law 368 = .ok (.aload_n 3, 1) := by decide +kernel
theorem dL_law_369 : decode cL_law 369 = .ok (.iload 18, 2) := by decide +kernel
theorem dL_law_371 : decode cL_law 371 = .ok (.bipush 6, 2) := by decide +kernel
theorem dL_law_373 : decode cL_law 373 = .ok (.iadd, 1) := by decide +kernel
theorem dL_law_374 : decode cL_law 374 = .ok (.iaload, 1) := by decide +kernel
theorem dL_law_375 : decode cL_law 375 = .ok (.invokevirtual 71, 3) := by decide +kernel
theorem dL_law_378 : decode cL_law 378 = .ok (.aload_n 2, 1) := by decide +kernel
theorem dL_law_379 : decode cL_law 379 = .ok (.iconst 0, 1) := by decide +kernel
theorem dL_law_380 : decode cL_law 380 = .ok (.dup2, 1) := by decide +kernel
theorem dL_law_381 : decode cL_law 381 = .ok (.iaload, 1) := by decide +kernel
theorem dL_law_382 : decode cL_law 382 = .ok (.dup_x2, 1) := by decide +kernel
theorem dL_law_383 : decode cL_law 383 = .ok (.iconst 1, 1) := by decide +kernel
theorem dL_law_384 : decode cL_law 384 = .ok (.iadd, 1) := by decide +kernel
theorem dL_law_385 : decode cL_law 385 = .ok (.iastore, 1) := by decide +kernel
theorem dL_law_386 : decode cL_law 386 = .ok (.if_icmp .eq 5, 3) := by decide +kernel
theorem dL_law_389 : decode cL_law 389 = .ok (.iconst 0, 1) := by decide +kernel
theorem dL_law_390 : decode cL_law 390 = .ok (.ireturn, 1) := by decide +kernel
theorem dL_law_391 : decode cL_law 391 = .ok (.goto 520, 3) := by decide +kernel
theorem dL_law_394 : decode cL_law 394 = .ok (.iload 14, 2) := by decide +kernel
theorem dL_law_396 : decode cL_law 396 = .ok (.iconst 4, 1) := by decide +kernel
theorem dL_law_397 : decode cL_law 397 = .ok (.if_icmp .ge 108, 3) := by decide +kernel
theorem dL_law_400 : decode cL_law 400 = .ok (.iload 13, 2) := by decide +kernel
theorem dL_law_402 : decode cL_law 402 = .ok (.bipush 7, 2) := by decide +kernel
theorem dL_law_404 : decode cL_law 404 = .ok (.invokestatic 50, 3) := by decide +kernel
theorem dL_law_407 : decode cL_law 407 = .ok (.iconst 3, 1) := by decide +kernel
theorem dL_law_408 : decode cL_law 408 = .ok (.isub, 1) := by decide +kernel
theorem dL_law_409 : decode cL_law 409 = .ok (.istore 18, 2) := by decide +kernel
theorem dL_law_411 : decode cL_law 411 = .ok (.iload 13, 2) := by decide +kernel
theorem dL_law_413 : decode cL_law 413 = .ok (.iconst 4, 1) := by decide +kernel
theorem dL_law_414 : decode cL_law 414 = .ok (.ishr, 1) := by decide +kernel
theorem dL_law_415 : decode cL_law 415 = .ok (.bipush 7, 2) := by decide +kernel
theorem dL_law_417 : decode cL_law 417 = .ok (.invokestatic 50, 3) := by decide +kernel
theorem dL_law_420 : decode cL_law 420 = .ok (.iconst 3, 1) := by decide +kernel
theorem dL_law_421 : decode cL_law 421 = .ok (.isub, 1) := by decide +kernel
theorem dL_law_422 : decode cL_law 422 = .ok (.istore 19, 2) := by decide +kernel
theorem dL_law_424 : decode cL_law 424 = .ok (.bipush 10, 2) := by decide +kernel
theorem dL_law_426 : decode cL_law 426 = .ok (.aload_n 3, 1) := by decide +kernel
theorem dL_law_427 : decode cL_law 427 = .ok (.iload 16, 2) := by decide +kernel
theorem dL_law_429 : decode cL_law 429 = .ok (.iconst 3, 1) := by decide +kernel
theorem dL_law_430 : decode cL_law 430 = .ok (.iadd, 1) := by decide +kernel
theorem dL_law_431 : decode cL_law 431 = .ok (.iaload, 1) := by decide +kernel
theorem dL_law_432 : decode cL_law 432 = .ok (.iload 18, 2) := by decide +kernel
theorem dL_law_434 : decode cL_law 434 = .ok (.isub, 1) := by decide +kernel
theorem dL_law_435 : decode cL_law 435 = .ok (.invokestatic 10, 3) := by decide +kernel
theorem dL_law_438 : decode cL_law 438 = .ok (.imul, 1) := by decide +kernel
theorem dL_law_439 : decode cL_law 439 = .ok (.aload_n 3, 1) := by decide +kernel
theorem dL_law_440 : decode cL_law 440 = .ok (.iload 16, 2) := by decide +kernel
theorem dL_law_442 : decode cL_law 442 = .ok (.iconst 4, 1) := by decide +kernel
theorem dL_law_443 : decode cL_law 443 = .ok (.iadd, 1) := by decide +kernel
theorem dL_law_444 : decode cL_law 444 = .ok (.iaload, 1) := by decide +kernel
theorem dL_law_445 : decode cL_law 445 = .ok (.iload 19, 2) := by decide +kernel
theorem dL_law_447 : decode cL_law 447 = .ok (.isub, 1) := by decide +kernel
theorem dL_law_448 : decode cL_law 448 = .ok (.invokestatic 10, 3) := by decide +kernel
theorem dL_law_451 : decode cL_law 451 = .ok (.iadd, 1) := by decide +kernel
theorem dL_law_452 : decode cL_law 452 = .ok (.istore 20, 2) := by decide +kernel
theorem dL_law_454 : decode cL_law 454 = .ok (.aload_n 1, 1) := by decide +kernel
theorem dL_law_455 : decode cL_law 455 = .ok (.iload 15, 2) := by decide +kernel
theorem dL_law_457 : decode cL_law 457 = .ok (.iload 18, 2) := by decide +kernel
theorem dL_law_459 : decode cL_law 459 = .ok (.iload 19, 2) := by decide +kernel
theorem dL_law_461 : decode cL_law 461 = .ok (.invokevirtual 75, 3) := by decide +kernel
theorem dL_law_464 : decode cL_law 464 = .ok (.iload 17, 2) := by decide +kernel
theorem dL_law_466 : decode cL_law 466 = .ok (.ifCond .eq 8, 3) := by decide +kernel
theorem dL_law_469 : decode cL_law 469 = .ok (.iload 20, 2) := by decide +kernel
theorem dL_law_471 : decode cL_law 471 = .ok (.goto 5, 3) := by decide +kernel
theorem dL_law_474 : decode cL_law 474 = .ok (.bipush (-5), 2) := by decide +kernel
theorem dL_law_476 : decode cL_law 476 = .ok (.if_icmp .eq 5, 3) := by decide +kernel
theorem dL_law_479 : decode cL_law 479 = .ok (.iconst 0, 1) := by decide +kernel
theorem dL_law_480 : decode cL_law 480 = .ok (.ireturn, 1) := by decide +kernel
theorem dL_law_481 : decode cL_law 481 = .ok (.iload 17, 2) := by decide +kernel
theorem dL_law_483 : decode cL_law 483 = .ok (.ifCond .eq 19, 3) := by decide +kernel
theorem dL_law_486 : decode cL_law 486 = .ok (.aload_n 3, 1) := by decide +kernel
theorem dL_law_487 : decode cL_law 487 = .ok (.iload 16, 2) := by decide +kernel
theorem dL_law_489 : decode cL_law 489 = .ok (.iconst 3, 1) := by decide +kernel
theorem dL_law_490 : decode cL_law 490 = .ok (.iadd, 1) := by decide +kernel
theorem dL_law_491 : decode cL_law 491 = .ok (.iload 18, 2) := by decide +kernel
theorem dL_law_493 : decode cL_law 493 = .ok (.iastore, 1) := by decide +kernel
theorem dL_law_494 : decode cL_law 494 = .ok (.aload_n 3, 1) := by decide +kernel
theorem dL_law_495 : decode cL_law 495 = .ok (.iload 16, 2) := by decide +kernel
theorem dL_law_497 : decode cL_law 497 = .ok (.iconst 4, 1) := by decide +kernel
theorem dL_law_498 : decode cL_law 498 = .ok (.iadd, 1) := by decide +kernel
theorem dL_law_499 : decode cL_law 499 = .ok (.iload 19, 2) := by decide +kernel
theorem dL_law_501 : decode cL_law 501 = .ok (.iastore, 1) := by decide +kernel
theorem dL_law_502 : decode cL_law 502 = .ok (.goto 409, 3) := by decide +kernel
theorem dL_law_505 : decode cL_law 505 = .ok (.iload 14, 2) := by decide +kernel
theorem dL_law_507 : decode cL_law 507 = .ok (.iconst 4, 1) := by decide +kernel
theorem dL_law_508 : decode cL_law 508 = .ok (.if_icmp .ne 60, 3) := by decide +kernel
theorem dL_law_511 : decode cL_law 511 = .ok (.iload 13, 2) := by decide +kernel
theorem dL_law_513 : decode cL_law 513 = .ok (.bipush 64, 2) := by decide +kernel
theorem dL_law_515 : decode cL_law 515 = .ok (.invokestatic 50, 3) := by decide +kernel
theorem dL_law_518 : decode cL_law 518 = .ok (.istore 18, 2) := by decide +kernel
theorem dL_law_520 : decode cL_law 520 = .ok (.aload_n 1, 1) := by decide +kernel
theorem dL_law_521 : decode cL_law 521 = .ok (.iload 15, 2) := by decide +kernel
theorem dL_law_523 : decode cL_law 523 = .ok (.iload 18, 2) := by decide +kernel
theorem dL_law_525 : decode cL_law 525 = .ok (.invokevirtual 78, 3) := by decide +kernel
theorem dL_law_528 : decode cL_law 528 = .ok (.iload 17, 2) := by decide +kernel
theorem dL_law_530 : decode cL_law 530 = .ok (.ifCond .eq 10, 3) := by decide +kernel
theorem dL_law_533 : decode cL_law 533 = .ok (.aload_n 3, 1) := by decide +kernel
theorem dL_law_534 : decode cL_law 534 = .ok (.iload 16, 2) := by decide +kernel
theorem dL_law_536 : decode cL_law 536 = .ok (.iaload, 1) := by decide +kernel
theorem dL_law_537 : decode cL_law 537 = .ok (.goto 5, 3) := by decide +kernel
theorem dL_law_540 : decode cL_law 540 = .ok (.bipush (-5), 2) := by decide +kernel
theorem dL_law_542 : decode cL_law 542 = .ok (.if_icmp .eq 5, 3) := by decide +kernel
theorem dL_law_545 : decode cL_law 545 = .ok (.iconst 0, 1) := by decide +kernel
theorem dL_law_546 : decode cL_law 546 = .ok (.ireturn, 1) := by decide +kernel
theorem dL_law_547 : decode cL_law 547 = .ok (.aload_n 3, 1) := by decide +kernel
theorem dL_law_548 : decode cL_law 548 = .ok (.iload 16, 2) := by decide +kernel
theorem dL_law_550 : decode cL_law 550 = .ok (.iload 17, 2) := by decide +kernel
theorem dL_law_552 : decode cL_law 552 = .ok (.ifCond .eq 8, 3) := by decide +kernel
theorem dL_law_555 : decode cL_law 555 = .ok (.iload 18, 2) := by decide +kernel
theorem dL_law_557 : decode cL_law 557 = .ok (.goto 7, 3) := by decide +kernel
theorem dL_law_560 : decode cL_law 560 = .ok (.aload_n 3, 1) := by decide +kernel
theorem dL_law_561 : decode cL_law 561 = .ok (.iload 16, 2) := by decide +kernel
theorem dL_law_563 : decode cL_law 563 = .ok (.iaload, 1) := by decide +kernel
theorem dL_law_564 : decode cL_law 564 = .ok (.iastore, 1) := by decide +kernel
theorem dL_law_565 : decode cL_law 565 = .ok (.goto 346, 3) := by decide +kernel
theorem dL_law_568 : decode cL_law 568 = .ok (.iload 14, 2) := by decide +kernel
theorem dL_law_570 : decode cL_law 570 = .ok (.iconst 5, 1) := by decide +kernel
theorem dL_law_571 : decode cL_law 571 = .ok (.if_icmp .ne 114, 3) := by decide +kernel
theorem dL_law_574 : decode cL_law 574 = .ok (.iload 13, 2) := by decide +kernel
theorem dL_law_576 : decode cL_law 576 = .ok (.iconst 3, 1) := by decide +kernel
theorem dL_law_577 : decode cL_law 577 = .ok (.invokestatic 50, 3) := by decide +kernel
theorem dL_law_580 : decode cL_law 580 = .ok (.ifCond .ne 105, 3) := by decide +kernel
theorem dL_law_583 : decode cL_law 583 = .ok (.iconst 0, 1) := by decide +kernel
theorem dL_law_584 : decode cL_law 584 = .ok (.istore 18, 2) := by decide +kernel
theorem dL_law_586 : decode cL_law 586 = .ok (.iconst 0, 1) := by decide +kernel
theorem dL_law_587 : decode cL_law 587 = .ok (.istore 19, 2) := by decide +kernel
theorem dL_law_589 : decode cL_law 589 = .ok (.iload 19, 2) := by decide +kernel
theorem dL_law_591 : decode cL_law 591 = .ok (.bipush 32, 2) := by decide +kernel
theorem dL_law_593 : decode cL_law 593 = .ok (.if_icmp .ge 43, 3) := by decide +kernel
theorem dL_law_596 : decode cL_law 596 = .ok (.iload 15, 2) := by decide +kernel
theorem dL_law_598 : decode cL_law 598 = .ok (.iload 19, 2) := by decide +kernel
theorem dL_law_600 : decode cL_law 600 = .ok (.aload 4, 2) := by decide +kernel
theorem dL_law_602 : decode cL_law 602 = .ok (.aload 5, 2) := by decide +kernel
theorem dL_law_604 : decode cL_law 604 = .ok (.invokestatic 27, 3) := by decide +kernel
theorem dL_law_607 : decode cL_law 607 = .ok (.iload 18, 2) := by decide +kernel
theorem dL_law_609 : decode cL_law 609 = .ok (.if_icmp .le 17, 3) := by decide +kernel
theorem dL_law_612 : decode cL_law 612 = .ok (.iload 15, 2) := by decide +kernel
theorem dL_law_614 : decode cL_law 614 = .ok (.iload 19, 2) := by decide +kernel
theorem dL_law_616 : decode cL_law 616 = .ok (.aload 4, 2) := by decide +kernel
theorem dL_law_618 : decode cL_law 618 = .ok (.aload 5, 2) := by decide +kernel
theorem dL_law_620 : decode cL_law 620 = .ok (.invokestatic 27, 3) := by decide +kernel
theorem dL_law_623 : decode cL_law 623 = .ok (.goto 5, 3) := by decide +kernel
theorem dL_law_626 : decode cL_law 626 = .ok (.iload 18, 2) := by decide +kernel
theorem dL_law_628 : decode cL_law 628 = .ok (.istore 18, 2) := by decide +kernel
theorem dL_law_630 : decode cL_law 630 = .ok (.iinc 19 1, 3) := by decide +kernel
theorem dL_law_633 : decode cL_law 633 = .ok (.goto (-44), 3) := by decide +kernel
theorem dL_law_636 : decode cL_law 636 = .ok (.aload_n 1, 1) := by decide +kernel
theorem dL_law_637 : decode cL_law 637 = .ok (.iload 15, 2) := by decide +kernel
theorem dL_law_639 : decode cL_law 639 = .ok (.invokevirtual 81, 3) := by decide +kernel
theorem dL_law_642 : decode cL_law 642 = .ok (.iload 17, 2) := by decide +kernel
theorem dL_law_644 : decode cL_law 644 = .ok (.ifCond .eq 8, 3) := by decide +kernel
theorem dL_law_647 : decode cL_law 647 = .ok (.iload 18, 2) := by decide +kernel
theorem dL_law_649 : decode cL_law 649 = .ok (.goto 5, 3) := by decide +kernel
theorem dL_law_652 : decode cL_law 652 = .ok (.bipush (-5), 2) := by decide +kernel
theorem dL_law_654 : decode cL_law 654 = .ok (.if_icmp .eq 5, 3) := by decide +kernel
theorem dL_law_657 : decode cL_law 657 = .ok (.iconst 0, 1) := by decide +kernel
theorem dL_law_658 : decode cL_law 658 = .ok (.ireturn, 1) := by decide +kernel
theorem dL_law_659 : decode cL_law 659 = .ok (.aload_n 3, 1) := by decide +kernel
theorem dL_law_660 : decode cL_law 660 = .ok (.iload 16, 2) := by decide +kernel
theorem dL_law_662 : decode cL_law 662 = .ok (.bipush 8, 2) := by decide +kernel
theorem dL_law_664 : decode cL_law 664 = .ok (.iadd, 1) := by decide +kernel
theorem dL_law_665 : decode cL_law 665 = .ok (.iload 17, 2) := by decide +kernel
theorem dL_law_667 : decode cL_law 667 = .ok (.ifCond .eq 7, 3) := by decide +kernel
theorem dL_law_670 : decode cL_law 670 = .ok (.iconst 2, 1) := by decide +kernel
theorem dL_law_671 : decode cL_law 671 = .ok (.goto 10, 3) := by decide +kernel
theorem dL_law_674 : decode cL_law 674 = .ok (.aload_n 3, 1) := by decide +kernel
theorem dL_law_675 : decode cL_law 675 = .ok (.iload 16, 2) := by decide +kernel
theorem dL_law_677 : decode cL_law 677 = .ok (.bipush 8, 2) := by decide +kernel
theorem dL_law_679 : decode cL_law 679 = .ok (.iadd, 1) := by decide +kernel
theorem dL_law_680 : decode cL_law 680 = .ok (.iaload, 1) := by decide +kernel
theorem dL_law_681 : decode cL_law 681 = .ok (.iastore, 1) := by decide +kernel
theorem dL_law_682 : decode cL_law 682 = .ok (.goto 229, 3) := by decide +kernel
theorem dL_law_685 : decode cL_law 685 = .ok (.iload 14, 2) := by decide +kernel
theorem dL_law_687 : decode cL_law 687 = .ok (.bipush 6, 2) := by decide +kernel
theorem dL_law_689 : decode cL_law 689 = .ok (.if_icmp .ne 160, 3) := by decide +kernel
theorem dL_law_692 : decode cL_law 692 = .ok (.iload 13, 2) := by decide +kernel
theorem dL_law_694 : decode cL_law 694 = .ok (.iconst 2, 1) := by decide +kernel
theorem dL_law_695 : decode cL_law 695 = .ok (.invokestatic 50, 3) := by decide +kernel
theorem dL_law_698 : decode cL_law 698 = .ok (.ifCond .ne 151, 3) := by decide +kernel
theorem dL_law_701 : decode cL_law 701 = .ok (.iconst 0, 1) := by decide +kernel
theorem dL_law_702 : decode cL_law 702 = .ok (.istore 18, 2) := by decide +kernel
theorem dL_law_704 : decode cL_law 704 = .ok (.iload 18, 2) := by decide +kernel
theorem dL_law_706 : decode cL_law 706 = .ok (.aload_n 2, 1) := by decide +kernel
theorem dL_law_707 : decode cL_law 707 = .ok (.iconst 0, 1) := by decide +kernel
theorem dL_law_708 : decode cL_law 708 = .ok (.iaload, 1) := by decide +kernel
theorem dL_law_709 : decode cL_law 709 = .ok (.if_icmp .ge 95, 3) := by decide +kernel
theorem dL_law_712 : decode cL_law 712 = .ok (.aload_n 3, 1) := by decide +kernel
theorem dL_law_713 : decode cL_law 713 = .ok (.bipush 12, 2) := by decide +kernel
theorem dL_law_715 : decode cL_law 715 = .ok (.iload 18, 2) := by decide +kernel
theorem dL_law_717 : decode cL_law 717 = .ok (.imul, 1) := by decide +kernel
theorem dL_law_718 : decode cL_law 718 = .ok (.aload_n 3, 1) := by decide +kernel
theorem dL_law_719 : decode cL_law 719 = .ok (.bipush 12, 2) := by decide +kernel
theorem dL_law_721 : decode cL_law 721 = .ok (.iload 18, 2) := by decide +kernel
theorem dL_law_723 : decode cL_law 723 = .ok (.imul, 1) := by decide +kernel
theorem dL_law_724 : decode cL_law 724 = .ok (.bipush 9, 2) := by decide +kernel
theorem dL_law_726 : decode cL_law 726 = .ok (.iadd, 1) := by decide +kernel
theorem dL_law_727 : decode cL_law 727 = .ok (.iaload, 1) := by decide +kernel
theorem dL_law_728 : decode cL_law 728 = .ok (.iastore, 1) := by decide +kernel
theorem dL_law_729 : decode cL_law 729 = .ok (.aload_n 3, 1) := by decide +kernel
theorem dL_law_730 : decode cL_law 730 = .ok (.bipush 12, 2) := by decide +kernel
theorem dL_law_732 : decode cL_law 732 = .ok (.iload 18, 2) := by decide +kernel
theorem dL_law_734 : decode cL_law 734 = .ok (.imul, 1) := by decide +kernel
theorem dL_law_735 : decode cL_law 735 = .ok (.iconst 1, 1) := by decide +kernel
theorem dL_law_736 : decode cL_law 736 = .ok (.iadd, 1) := by decide +kernel
theorem dL_law_737 : decode cL_law 737 = .ok (.aload_n 3, 1) := by decide +kernel
theorem dL_law_738 : decode cL_law 738 = .ok (.bipush 12, 2) := by decide +kernel
theorem dL_law_740 : decode cL_law 740 = .ok (.iload 18, 2) := by decide +kernel
theorem dL_law_742 : decode cL_law 742 = .ok (.imul, 1) := by decide +kernel
theorem dL_law_743 : decode cL_law 743 = .ok (.bipush 10, 2) := by decide +kernel
theorem dL_law_745 : decode cL_law 745 = .ok (.iadd, 1) := by decide +kernel
theorem dL_law_746 : decode cL_law 746 = .ok (.iaload, 1) := by decide +kernel
theorem dL_law_747 : decode cL_law 747 = .ok (.iastore, 1) := by decide +kernel
theorem dL_law_748 : decode cL_law 748 = .ok (.aload_n 3, 1) := by decide +kernel
theorem dL_law_749 : decode cL_law 749 = .ok (.bipush 12, 2) := by decide +kernel
theorem dL_law_751 : decode cL_law 751 = .ok (.iload 18, 2) := by decide +kernel
theorem dL_law_753 : decode cL_law 753 = .ok (.imul, 1) := by decide +kernel
theorem dL_law_754 : decode cL_law 754 = .ok (.iconst 2, 1) := by decide +kernel
theorem dL_law_755 : decode cL_law 755 = .ok (.iadd, 1) := by decide +kernel
theorem dL_law_756 : decode cL_law 756 = .ok (.aload_n 3, 1) := by decide +kernel
theorem dL_law_757 : decode cL_law 757 = .ok (.bipush 12, 2) := by decide +kernel
theorem dL_law_759 : decode cL_law 759 = .ok (.iload 18, 2) := by decide +kernel
theorem dL_law_761 : decode cL_law 761 = .ok (.imul, 1) := by decide +kernel
theorem dL_law_762 : decode cL_law 762 = .ok (.bipush 11, 2) := by decide +kernel
theorem dL_law_764 : decode cL_law 764 = .ok (.iadd, 1) := by decide +kernel
theorem dL_law_765 : decode cL_law 765 = .ok (.iaload, 1) := by decide +kernel
theorem dL_law_766 : decode cL_law 766 = .ok (.iastore, 1) := by decide +kernel
theorem dL_law_767 : decode cL_law 767 = .ok (.aload_n 3, 1) := by decide +kernel
theorem dL_law_768 : decode cL_law 768 = .ok (.bipush 12, 2) := by decide +kernel
theorem dL_law_770 : decode cL_law 770 = .ok (.iload 18, 2) := by decide +kernel
theorem dL_law_772 : decode cL_law 772 = .ok (.imul, 1) := by decide +kernel
theorem dL_law_773 : decode cL_law 773 = .ok (.iconst 3, 1) := by decide +kernel
theorem dL_law_774 : decode cL_law 774 = .ok (.iadd, 1) := by decide +kernel
theorem dL_law_775 : decode cL_law 775 = .ok (.iconst 0, 1) := by decide +kernel
theorem dL_law_776 : decode cL_law 776 = .ok (.iastore, 1) := by decide +kernel
theorem dL_law_777 : decode cL_law 777 = .ok (.aload_n 3, 1) := by decide +kernel
theorem dL_law_778 : decode cL_law 778 = .ok (.bipush 12, 2) := by decide +kernel
theorem dL_law_780 : decode cL_law 780 = .ok (.iload 18, 2) := by decide +kernel
theorem dL_law_782 : decode cL_law 782 = .ok (.imul, 1) := by decide +kernel
theorem dL_law_783 : decode cL_law 783 = .ok (.iconst 4, 1) := by decide +kernel
theorem dL_law_784 : decode cL_law 784 = .ok (.iadd, 1) := by decide +kernel
theorem dL_law_785 : decode cL_law 785 = .ok (.iconst 0, 1) := by decide +kernel
theorem dL_law_786 : decode cL_law 786 = .ok (.iastore, 1) := by decide +kernel
theorem dL_law_787 : decode cL_law 787 = .ok (.aload_n 3, 1) := by decide +kernel
theorem dL_law_788 : decode cL_law 788 = .ok (.bipush 12, 2) := by decide +kernel
theorem dL_law_790 : decode cL_law 790 = .ok (.iload 18, 2) := by decide +kernel
theorem dL_law_792 : decode cL_law 792 = .ok (.imul, 1) := by decide +kernel
theorem dL_law_793 : decode cL_law 793 = .ok (.bipush 8, 2) := by decide +kernel
theorem dL_law_795 : decode cL_law 795 = .ok (.iadd, 1) := by decide +kernel
theorem dL_law_796 : decode cL_law 796 = .ok (.iconst 0, 1) := by decide +kernel
theorem dL_law_797 : decode cL_law 797 = .ok (.iastore, 1) := by decide +kernel
theorem dL_law_798 : decode cL_law 798 = .ok (.iinc 18 1, 3) := by decide +kernel
theorem dL_law_801 : decode cL_law 801 = .ok (.goto (-97), 3) := by decide +kernel
theorem dL_law_804 : decode cL_law 804 = .ok (.iconst 0, 1) := by decide +kernel
theorem dL_law_805 : decode cL_law 805 = .ok (.istore 18, 2) := by decide +kernel
theorem dL_law_807 : decode cL_law 807 = .ok (.iload 18, 2) := by decide +kernel
theorem dL_law_809 : decode cL_law 809 = .ok (.bipush 64, 2) := by decide +kernel
theorem dL_law_811 : decode cL_law 811 = .ok (.if_icmp .ge 21, 3) := by decide +kernel
theorem dL_law_814 : decode cL_law 814 = .ok (.aload 4, 2) := by decide +kernel
theorem dL_law_816 : decode cL_law 816 = .ok (.iload 18, 2) := by decide +kernel
theorem dL_law_818 : decode cL_law 818 = .ok (.iconst 0, 1) := by decide +kernel
theorem dL_law_819 : decode cL_law 819 = .ok (.iastore, 1) := by decide +kernel
theorem dL_law_820 : decode cL_law 820 = .ok (.aload 5, 2) := by decide +kernel
theorem dL_law_822 : decode cL_law 822 = .ok (.iload 18, 2) := by decide +kernel
theorem dL_law_824 : decode cL_law 824 = .ok (.iconst 0, 1) := by decide +kernel
theorem dL_law_825 : decode cL_law 825 = .ok (.iastore, 1) := by decide +kernel
theorem dL_law_826 : decode cL_law 826 = .ok (.iinc 18 1, 3) := by decide +kernel
theorem dL_law_829 : decode cL_law 829 = .ok (.goto (-22), 3) := by decide +kernel
theorem dL_law_832 : decode cL_law 832 = .ok (.aload_n 1, 1) := by decide +kernel
theorem dL_law_833 : decode cL_law 833 = .ok (.invokevirtual 84, 3) := by decide +kernel
theorem dL_law_836 : decode cL_law 836 = .ok (.aload_n 2, 1) := by decide +kernel
theorem dL_law_837 : decode cL_law 837 = .ok (.iconst 1, 1) := by decide +kernel
theorem dL_law_838 : decode cL_law 838 = .ok (.dup2, 1) := by decide +kernel
theorem dL_law_839 : decode cL_law 839 = .ok (.iaload, 1) := by decide +kernel
theorem dL_law_840 : decode cL_law 840 = .ok (.iconst 1, 1) := by decide +kernel
theorem dL_law_841 : decode cL_law 841 = .ok (.iadd, 1) := by decide +kernel
theorem dL_law_842 : decode cL_law 842 = .ok (.dup_x2, 1) := by decide +kernel
theorem dL_law_843 : decode cL_law 843 = .ok (.iastore, 1) := by decide +kernel
theorem dL_law_844 : decode cL_law 844 = .ok (.if_icmp .eq 67, 3) := by decide +kernel
theorem dL_law_847 : decode cL_law 847 = .ok (.iconst 0, 1) := by decide +kernel
theorem dL_law_848 : decode cL_law 848 = .ok (.ireturn, 1) := by decide +kernel
theorem dL_law_849 : decode cL_law 849 = .ok (.iconst 1, 1) := by decide +kernel
theorem dL_law_850 : decode cL_law 850 = .ok (.iload 13, 2) := by decide +kernel
theorem dL_law_852 : decode cL_law 852 = .ok (.bipush 12, 2) := by decide +kernel
theorem dL_law_854 : decode cL_law 854 = .ok (.invokestatic 50, 3) := by decide +kernel
theorem dL_law_857 : decode cL_law 857 = .ok (.iadd, 1) := by decide +kernel
theorem dL_law_858 : decode cL_law 858 = .ok (.istore 18, 2) := by decide +kernel
theorem dL_law_860 : decode cL_law 860 = .ok (.iconst 0, 1) := by decide +kernel
theorem dL_law_861 : decode cL_law 861 = .ok (.istore 19, 2) := by decide +kernel
theorem dL_law_863 : decode cL_law 863 = .ok (.iconst 0, 1) := by decide +kernel
theorem dL_law_864 : decode cL_law 864 = .ok (.istore 20, 2) := by decide +kernel
theorem dL_law_866 : decode cL_law 866 = .ok (.iload 20, 2) := by decide +kernel
theorem dL_law_868 : decode cL_law 868 = .ok (.iload 18, 2) := by decide +kernel
theorem dL_law_870 : decode cL_law 870 = .ok (.if_icmp .ge 28, 3) := by decide +kernel
theorem dL_law_873 : decode cL_law 873 = .ok (.iload 19, 2) := by decide +kernel
theorem dL_law_875 : decode cL_law 875 = .ok (.aload_n 2, 1) := by decide +kernel
theorem dL_law_876 : decode cL_law 876 = .ok (.aload_n 3, 1) := by decide +kernel
theorem dL_law_877 : decode cL_law 877 = .ok (.aload 4, 2) := by decide +kernel
theorem dL_law_879 : decode cL_law 879 = .ok (.aload 5, 2) := by decide +kernel
theorem dL_law_881 : decode cL_law 881 = .ok (.aload 6, 2) := by decide +kernel
theorem dL_law_883 : decode cL_law 883 = .ok (.invokestatic 53, 3) := by decide +kernel
theorem dL_law_886 : decode cL_law 886 = .ok (.bipush 100, 2) := by decide +kernel
theorem dL_law_888 : decode cL_law 888 = .ok (.irem, 1) := by decide +kernel
theorem dL_law_889 : decode cL_law 889 = .ok (.ior, 1) := by decide +kernel
theorem dL_law_890 : decode cL_law 890 = .ok (.istore 19, 2) := by decide +kernel
theorem dL_law_892 : decode cL_law 892 = .ok (.iinc 20 1, 3) := by decide +kernel
theorem dL_law_895 : decode cL_law 895 = .ok (.goto (-29), 3) := by decide +kernel
theorem dL_law_898 : decode cL_law 898 = .ok (.aload_n 1, 1) := by decide +kernel
theorem dL_law_899 : decode cL_law 899 = .ok (.iload 18, 2) := by decide +kernel
theorem dL_law_901 : decode cL_law 901 = .ok (.invokevirtual 88, 3) := by decide +kernel
theorem dL_law_904 : decode cL_law 904 = .ok (.iload 19, 2) := by decide +kernel
theorem dL_law_906 : decode cL_law 906 = .ok (.if_icmp .eq 5, 3) := by decide +kernel
theorem dL_law_909 : decode cL_law 909 = .ok (.iconst 0, 1) := by decide +kernel
theorem dL_law_910 : decode cL_law 910 = .ok (.ireturn, 1) := by decide +kernel
theorem dL_law_911 : decode cL_law 911 = .ok (.aload_n 1, 1) := by decide +kernel
theorem dL_law_912 : decode cL_law 912 = .ok (.aload_n 2, 1) := by decide +kernel
theorem dL_law_913 : decode cL_law 913 = .ok (.aload_n 3, 1) := by decide +kernel
theorem dL_law_914 : decode cL_law 914 = .ok (.aload 4, 2) := by decide +kernel
theorem dL_law_916 : decode cL_law 916 = .ok (.aload 5, 2) := by decide +kernel
theorem dL_law_918 : decode cL_law 918 = .ok (.invokestatic 91, 3) := by decide +kernel
theorem dL_law_921 : decode cL_law 921 = .ok (.ifCond .eq 48, 3) := by decide +kernel
theorem dL_law_924 : decode cL_law 924 = .ok (.aload_n 2, 1) := by decide +kernel
theorem dL_law_925 : decode cL_law 925 = .ok (.iconst 0, 1) := by decide +kernel
theorem dL_law_926 : decode cL_law 926 = .ok (.iaload, 1) := by decide +kernel
theorem dL_law_927 : decode cL_law 927 = .ok (.ifCond .le 44, 3) := by decide +kernel
theorem dL_law_930 : decode cL_law 930 = .ok (.iload 13, 2) := by decide +kernel
theorem dL_law_932 : decode cL_law 932 = .ok (.bipush 12, 2) := by decide +kernel
theorem dL_law_934 : decode cL_law 934 = .ok (.ishr, 1) := by decide +kernel
theorem dL_law_935 : decode cL_law 935 = .ok (.iconst 4, 1) := by decide +kernel
theorem dL_law_936 : decode cL_law 936 = .ok (.invokestatic 50, 3) := by decide +kernel
theorem dL_law_939 : decode cL_law 939 = .ok (.ifCond .ne 32, 3) := by decide +kernel
theorem dL_law_942 : decode cL_law 942 = .ok (.aload_n 1, 1) := by decide +kernel
theorem dL_law_943 : decode cL_law 943 = .ok (.iload 13, 2) := by decide +kernel
theorem dL_law_945 : decode cL_law 945 = .ok (.iconst 3, 1) := by decide +kernel
theorem dL_law_946 : decode cL_law 946 = .ok (.ishr, 1) := by decide +kernel
theorem dL_law_947 : decode cL_law 947 = .ok (.aload_n 2, 1) := by decide +kernel
theorem dL_law_948 : decode cL_law 948 = .ok (.aload_n 3, 1) := by decide +kernel
theorem dL_law_949 : decode cL_law 949 = .ok (.aload 4, 2) := by decide +kernel
theorem dL_law_951 : decode cL_law 951 = .ok (.aload 5, 2) := by decide +kernel
theorem dL_law_953 : decode cL_law 953 = .ok (.aload 6, 2) := by decide +kernel
theorem dL_law_955 : decode cL_law 955 = .ok (.aload 7, 2) := by decide +kernel
theorem dL_law_957 : decode cL_law 957 = .ok (.aload 8, 2) := by decide +kernel
theorem dL_law_959 : decode cL_law 959 = .ok (.aload 9, 2) := by decide +kernel
theorem dL_law_961 : decode cL_law 961 = .ok (.aload 10, 2) := by decide +kernel
theorem dL_law_963 : decode cL_law 963 = .ok (.invokestatic 95, 3) := by decide +kernel
theorem dL_law_966 : decode cL_law 966 = .ok (.ifCond .ne 5, 3) := by decide +kernel
theorem dL_law_969 : decode cL_law 969 = .ok (.iconst 0, 1) := by decide +kernel
theorem dL_law_970 : decode cL_law 970 = .ok (.ireturn, 1) := by decide +kernel
theorem dL_law_971 : decode cL_law 971 = .ok (.iinc 11 1, 3) := by decide +kernel
theorem dL_law_974 : decode cL_law 974 = .ok (.goto (-913), 3) := by decide +kernel
theorem dL_law_977 : decode cL_law 977 = .ok (.iconst 1, 1) := by decide +kernel
theorem dL_law_978 : decode cL_law 978 = .ok (.ireturn, 1) := by decide +kernel
/-! ===== the script's cells ===== -/
theorem hL_cell : yL_cell.cls = RL ∧ yL_cell.cls ≠ "java/lang/invoke/MethodHandle" ∧ yL_cell.cls ≠ "java/lang/invoke/VarHandle" ∧ (parseMethodDescriptor yL_cell.desc).map (fun d => d.parameters.length) = some 2 := by decide +kernel
theorem oL_cell : Cond.static yL_cell ∈ zT ∧ Cond.initialized RL ∈ zT ∧ Cond.code yL_cell cL_cell 2 (some .int) ∈ zT := ⟨ws_L_cell, wi_L, wk_L_cell⟩
set_option maxRecDepth 100000 in
set_option maxHeartbeats 4000000 in
theorem kL_cell (l : Launch) {g : zGeo} {z : Nat} (hg : zAd g z) {M M' : zM} {b L : Nat} {xs : Nat → Int32} (hbz : b < z) (hLL : L ≤ 260) {k r : Int32} (hF : fL_cell M xs L k = some (r, M')) : Met l yL_cell [.code yL_cell cL_cell 2 (some .int)] { frames := 0, cells := 0, slots := 0, locals := 0 } (zPx g M b L xs [.ref b, .int k]) (zQi g z r M') 0 0 (zS z) := by
  refine Met.ofW (cc := cL_cell) (maxL := 2) (ret := some .int) (by decide) rfl ?_
  intro p e s m args below meth c s₁ B hml hv
  obtain ⟨rfl, hR, hK, hX⟩ := hv
  rw [lg_entry_eq]
  have hl := lv_entry ([.ref b, .int k]) (n := 2) (Nat.le_of_ble_eq_true rfl)
  generalize (lg_sl ([.ref b, .int k]) ++ List.replicate (2 - (lg_sl ([.ref b, .int k])).length) Slot.unset).toArray = ls at hl ⊢
  have hl : lv_has ls 2 [(0, .ref b), (1, .int k)] := hl
  have S : CallFix p m c cL_cell 2 s ([.ref b, .int k] : List Value).toArray zT RL := ⟨B.exec, B.bytes, hml, findClass_of_methodNamed B.named, fun w hw => word_at (State.WarmedH.refl s) (zT_ok hw) (hK.2.1 w hw)⟩
  have hr := B.returns
  have hlk := B.notSynchronized
  have hS : va_S (zS z) s.heap s.heap [] := va_S.rf
  have hbl : b < s.heap.size := by obtain ⟨_, h1, -⟩ := hX; exact (Array.getElem?_eq_some_iff.mp h1).1
  have hbA : ¬ (zS z) b := Nat.not_le.mpr hbz
  unfold fL_cell at hF
  refine lv_iload_n S.1 S.2.1 dL_cell_0 rfl (lv_at hl 1 rfl) ?_
  refine lv_aload_n S.1 S.2.1 dL_cell_1 rfl (lv_at hl 0 rfl) ?_
  refine va_slen S.1 S.2.1 hX hbl hbA hS dL_cell_2 ?_
  refine lv_icmp_ge (tgt := 12) S.1 S.2.1 dL_cell_3 (by decide) (fun hc => ?_) (fun hc => ?_)
  · replace hF := z_ct hF hc
    refine lv_ldc (v := 934925793) S.1 S.2.1 S.2.2.2.1 (S.2.2.2.2 _ wq_L_7) dL_cell_12 ?_
    refine lv_iload_n S.1 S.2.1 dL_cell_14 rfl (lv_at hl 1 rfl) ?_
    refine lv_iconst (v := 1) S.1 S.2.1 dL_cell_15 (by decide) ?_
    refine lv_iadd S.1 S.2.1 dL_cell_16 ?_
    refine lv_imul S.1 S.2.1 dL_cell_17 ?_
    refine lv_ldc (v := 1248604035) S.1 S.2.1 S.2.2.2.1 (S.2.2.2.2 _ wq_L_8) dL_cell_18 ?_
    refine lv_iadd S.1 S.2.1 dL_cell_20 ?_
    exact z_iret S hr hlk hR hS hF dL_cell_21
  · replace hF := z_cf hF hc
    by_cases h0 : 0 ≤ k
    · replace hF := z_ct hF h0
      refine lv_aload_n S.1 S.2.1 dL_cell_6 rfl (lv_at hl 0 rfl) ?_
      refine lv_iload_n S.1 S.2.1 dL_cell_7 rfl (lv_at hl 1 rfl) ?_
      have hLi : (Int32.ofNat L).toInt = (L : Int) := nI_toInt (n := L) (by omega)
      have hin : vp_in k L := vp_in_iff.mpr ⟨Int32.le_iff_toInt_le.mp h0, by rw [Int32.le_iff_toInt_le, hLi] at hc; omega⟩
      refine va_sld S.1 S.2.1 hX hbl hbA hS hin dL_cell_8 ?_
      refine lv_goto (tgt := 21) S.1 S.2.1 dL_cell_9 (by decide) ?_
      exact z_iret S hr hlk hR hS hF dL_cell_21
    · exact absurd (z_cf hF h0) (by simp)
def fL_law_L866 (k : zM → Int32 → Int32 → Option (Int32 × zM)) (xs : Nat → Int32) (L : Nat) (a11 : Int32) (a13 : Int32) (a18 : Int32) : Nat → zM → Int32 → Int32 → Option (Int32 × zM)
  | 0 => fun _ _ _ => none
  | n + 1 => fun M a19 a20 =>
    if a18 ≤ a20 then
      k M a19 a20
    else
      zC (fL_tick M 26 27 28 29 30) fun r44 M43 =>
      zL (a19 ||| (zir r44 100)) fun v45 =>
      zL (a20 + 1) fun v46 =>
      fL_law_L866 k xs L a11 a13 a18 n M43 v45 v46
def fL_law_J971 (rec : zM → Int32 → Option (Int32 × zM)) (k : zM → Int32 → Option (Int32 × zM)) (xs : Nat → Int32) (L : Nat) (M : zM) (a11 : Int32) : Option (Int32 × zM) :=
  zL (a11 + 1) fun v57 =>
  rec M v57
def fL_law_J911 (rec : zM → Int32 → Option (Int32 × zM)) (k : zM → Int32 → Option (Int32 × zM)) (xs : Nat → Int32) (L : Nat) (M : zM) (a11 : Int32) (a13 : Int32) : Option (Int32 × zM) :=
  zC (fL_same M) fun r54 M53 =>
  if r54 = 0 then
    some (0, M53)
  else
    zI 0 4 <|
    if (M53 26 0 (zN 0)) ≤ 0 then
      fL_law_J971 rec k xs L M53 a11
    else
      zC (fL_low M53 (a13 >>> (12 &&& 31)) 4) fun r59 M58 =>
      if r59 = 0 then
        zC (fL_would M58 (a13 >>> (3 &&& 31))) fun r62 M61 =>
        if r62 = 0 then
          some (0, M61)
        else
          fL_law_J971 rec k xs L M61 a11
      else
        fL_law_J971 rec k xs L M58 a11
def fL_law_J849 (rec : zM → Int32 → Option (Int32 × zM)) (k : zM → Int32 → Option (Int32 × zM)) (xs : Nat → Int32) (L : Nat) (M : zM) (a11 : Int32) (a13 : Int32) : Option (Int32 × zM) :=
  zC (fL_low M a13 12) fun r40 M39 =>
  zL (1 + r40) fun v41 =>
  fL_law_L866 (fun M47 v48 v49 => 
    zC (fX6_pass M47 v41) fun r51 M50 =>
    if r51 = v48 then
      fL_law_J911 rec k xs L M50 a11 a13
    else
      some (0, M50)) xs L a11 a13 v41 2000 M39 0 0
def fL_law_L704 (k : zM → Int32 → Option (Int32 × zM)) (xs : Nat → Int32) (L : Nat) (a11 : Int32) (a13 : Int32) : Nat → zM → Int32 → Option (Int32 × zM)
  | 0 => fun _ _ => none
  | n + 1 => fun M a18 =>
    zI 0 4 <|
    if (M 26 0 (zN 0)) ≤ a18 then
      k M a18
    else
      zI ((12 * a18) + 9) 48 <|
      zI (12 * a18) 48 <| zL (zw M 27 0 (zN (12 * a18)) (M 27 0 (zN ((12 * a18) + 9)))) fun M68 =>
      zI ((12 * a18) + 10) 48 <|
      zI ((12 * a18) + 1) 48 <| zL (zw M68 27 0 (zN ((12 * a18) + 1)) (M68 27 0 (zN ((12 * a18) + 10)))) fun M69 =>
      zI ((12 * a18) + 11) 48 <|
      zI ((12 * a18) + 2) 48 <| zL (zw M69 27 0 (zN ((12 * a18) + 2)) (M69 27 0 (zN ((12 * a18) + 11)))) fun M70 =>
      zI ((12 * a18) + 3) 48 <| zL (zw M70 27 0 (zN ((12 * a18) + 3)) 0) fun M71 =>
      zI ((12 * a18) + 4) 48 <| zL (zw M71 27 0 (zN ((12 * a18) + 4)) 0) fun M72 =>
      zI ((12 * a18) + 8) 48 <| zL (zw M72 27 0 (zN ((12 * a18) + 8)) 0) fun M73 =>
      zL (a18 + 1) fun v74 =>
      fL_law_L704 k xs L a11 a13 n M73 v74
def fL_law_L807 (k : zM → Int32 → Option (Int32 × zM)) (xs : Nat → Int32) (L : Nat) (a11 : Int32) (a13 : Int32) : Nat → zM → Int32 → Option (Int32 × zM)
  | 0 => fun _ _ => none
  | n + 1 => fun M a18 =>
    if 64 ≤ a18 then
      k M a18
    else
      zI a18 64 <| zL (zw M 28 0 (zN a18) 0) fun M78 =>
      zI a18 64 <| zL (zw M78 29 0 (zN a18) 0) fun M79 =>
      zL (a18 + 1) fun v80 =>
      fL_law_L807 k xs L a11 a13 n M79 v80
def fL_law_J685 (rec : zM → Int32 → Option (Int32 × zM)) (k : zM → Int32 → Option (Int32 × zM)) (xs : Nat → Int32) (L : Nat) (M : zM) (a11 : Int32) (a13 : Int32) (a14 : Int32) : Option (Int32 × zM) :=
  if a14 = 6 then
    zC (fL_low M a13 2) fun r65 M64 =>
    if r65 = 0 then
      fL_law_L704 (fun M75 v76 => 
        fL_law_L807 (fun M81 v82 => 
          zC (fX6_round M81) fun r84 M83 =>
          zI 1 4 <|
          zI 1 4 <| zL (zw M83 26 0 (zN 1) ((M83 26 0 (zN 1)) + 1)) fun M85 =>
          if r84 = ((M83 26 0 (zN 1)) + 1) then
            fL_law_J911 rec k xs L M85 a11 a13
          else
            some (0, M85)) xs L a11 a13 2000 M75 0) xs L a11 a13 2000 M64 0
    else
      fL_law_J849 rec k xs L M64 a11 a13
  else
    fL_law_J849 rec k xs L M a11 a13
def fL_law_L589 (k : zM → Int32 → Int32 → Option (Int32 × zM)) (xs : Nat → Int32) (L : Nat) (a11 : Int32) (a13 : Int32) (a15 : Int32) (a16 : Int32) (a17 : Int32) : Nat → zM → Int32 → Int32 → Option (Int32 × zM)
  | 0 => fun _ _ _ => none
  | n + 1 => fun M a18 a19 =>
    if 32 ≤ a19 then
      k M a18 a19
    else
      zC (fL_worn M a15 a19 28 29) fun r92 M91 =>
      if r92 ≤ a18 then
        zL (a19 + 1) fun v94 =>
        fL_law_L589 k xs L a11 a13 a15 a16 a17 n M91 a18 v94
      else
        zC (fL_worn M91 a15 a19 28 29) fun r96 M95 =>
        zL (a19 + 1) fun v97 =>
        fL_law_L589 k xs L a11 a13 a15 a16 a17 n M95 r96 v97
def fL_law_J505 (rec : zM → Int32 → Option (Int32 × zM)) (k : zM → Int32 → Option (Int32 × zM)) (xs : Nat → Int32) (L : Nat) (M : zM) (a11 : Int32) (a13 : Int32) (a14 : Int32) (a15 : Int32) (a16 : Int32) (a17 : Int32) : Option (Int32 × zM) :=
  if a14 = 4 then
    zC (fL_low M a13 64) fun r109 M108 =>
    zC (fX6_step M108 a15 r109) fun r111 M110 =>
    if a17 = 0 then
      if r111 = (-5) then
        zI a16 48 <|
        zI a16 48 <| zL (zw M110 27 0 (zN a16) (M110 27 0 (zN a16))) fun M114 =>
        fL_law_J911 rec k xs L M114 a11 a13
      else
        some (0, M110)
    else
      zI a16 48 <|
      if r111 = (M110 27 0 (zN a16)) then
        zI a16 48 <| zL (zw M110 27 0 (zN a16) r109) fun M116 =>
        fL_law_J911 rec k xs L M116 a11 a13
      else
        some (0, M110)
  else
    if a14 = 5 then
      zC (fL_low M a13 3) fun r88 M87 =>
      if r88 = 0 then
        fL_law_L589 (fun M98 v99 v100 => 
          zC (fX6_land M98 a15) fun r102 M101 =>
          if a17 = 0 then
            if r102 = (-5) then
              zI (a16 + 8) 48 <|
              zI (a16 + 8) 48 <| zL (zw M101 27 0 (zN (a16 + 8)) (M101 27 0 (zN (a16 + 8)))) fun M105 =>
              fL_law_J911 rec k xs L M105 a11 a13
            else
              some (0, M101)
          else
            if r102 = v99 then
              zI (a16 + 8) 48 <| zL (zw M101 27 0 (zN (a16 + 8)) 2) fun M107 =>
              fL_law_J911 rec k xs L M107 a11 a13
            else
              some (0, M101)) xs L a11 a13 a15 a16 a17 2000 M87 0 0
      else
        fL_law_J685 rec k xs L M87 a11 a13 a14
    else
      fL_law_J685 rec k xs L M a11 a13 a14
def fL_law_J394 (rec : zM → Int32 → Option (Int32 × zM)) (k : zM → Int32 → Option (Int32 × zM)) (xs : Nat → Int32) (L : Nat) (M : zM) (a11 : Int32) (a13 : Int32) (a14 : Int32) (a15 : Int32) (a16 : Int32) (a17 : Int32) : Option (Int32 × zM) :=
  if 4 ≤ a14 then
    fL_law_J505 rec k xs L M a11 a13 a14 a15 a16 a17
  else
    zC (fL_low M a13 7) fun r118 M117 =>
    zL (r118 - 3) fun v119 =>
    zC (fL_low M117 (a13 >>> (4 &&& 31)) 7) fun r121 M120 =>
    zL (r121 - 3) fun v122 =>
    zI (a16 + 3) 48 <|
    zC (fL_abs M120 ((M120 27 0 (zN (a16 + 3))) - v119)) fun r124 M123 =>
    zI (a16 + 4) 48 <|
    zC (fL_abs M123 ((M123 27 0 (zN (a16 + 4))) - v122)) fun r126 M125 =>
    zL ((10 * r124) + r126) fun v127 =>
    zC (fX6_order M125 a15 v119 v122) fun r129 M128 =>
    if a17 = 0 then
      if r129 = (-5) then
        fL_law_J911 rec k xs L M128 a11 a13
      else
        some (0, M128)
    else
      if r129 = v127 then
        zI (a16 + 3) 48 <| zL (zw M128 27 0 (zN (a16 + 3)) v119) fun M133 =>
        zI (a16 + 4) 48 <| zL (zw M133 27 0 (zN (a16 + 4)) v122) fun M134 =>
        fL_law_J911 rec k xs L M134 a11 a13
      else
        some (0, M128)
def fL_law_L184 (k : zM → Int32 → Option (Int32 × zM)) (xs : Nat → Int32) (L : Nat) (a11 : Int32) (a12 : Int32) (a13 : Int32) (a18 : Int32) : Nat → zM → Int32 → Option (Int32 × zM)
  | 0 => fun _ _ => none
  | n + 1 => fun M a19 =>
    if 12 ≤ a19 then
      k M a19
    else
      zI (a18 + a19) 48 <| zL (zw M 27 0 (zN (a18 + a19)) 0) fun M138 =>
      zL (a19 + 1) fun v139 =>
      fL_law_L184 k xs L a11 a12 a13 a18 n M138 v139
def fL_law_J300 (rec : zM → Int32 → Option (Int32 × zM)) (k : zM → Int32 → Option (Int32 × zM)) (xs : Nat → Int32) (L : Nat) (M : zM) (a11 : Int32) (a13 : Int32) (a18 : Int32) : Option (Int32 × zM) :=
  zC (fL_copy M 27 48 32 48 48) fun _ M160 =>
  zI a18 48 <|
  zI (a18 + 9) 48 <| zL (zw M160 27 0 (zN (a18 + 9)) (M160 27 0 (zN a18))) fun M161 =>
  zI (a18 + 1) 48 <|
  zI (a18 + 10) 48 <| zL (zw M161 27 0 (zN (a18 + 10)) (M161 27 0 (zN (a18 + 1)))) fun M162 =>
  zI (a18 + 2) 48 <|
  zI (a18 + 11) 48 <| zL (zw M162 27 0 (zN (a18 + 11)) (M162 27 0 (zN (a18 + 2)))) fun M163 =>
  zI a18 48 <|
  zI (a18 + 1) 48 <|
  zI (a18 + 2) 48 <|
  zI (a18 + 5) 48 <|
  zI (a18 + 6) 48 <|
  zC (fX6_launch M163 (M163 27 0 (zN a18)) (M163 27 0 (zN (a18 + 1))) (M163 27 0 (zN (a18 + 2))) (M163 27 0 (zN (a18 + 5))) (M163 27 0 (zN (a18 + 6)))) fun r165 M164 =>
  zI 0 4 <|
  zI 0 4 <| zL (zw M164 26 0 (zN 0) ((M164 26 0 (zN 0)) + 1)) fun M166 =>
  if r165 = (M164 26 0 (zN 0)) then
    fL_law_J911 rec k xs L M166 a11 a13
  else
    some (0, M166)
def fL_law_J161 (rec : zM → Int32 → Option (Int32 × zM)) (k : zM → Int32 → Option (Int32 × zM)) (xs : Nat → Int32) (L : Nat) (M : zM) (a11 : Int32) (a12 : Int32) (a13 : Int32) (a14 : Int32) (a15 : Int32) (a16 : Int32) (a17 : Int32) : Option (Int32 × zM) :=
  if a14 = 0 then
    zI 0 4 <|
    if 4 ≤ (M 26 0 (zN 0)) then
      fL_law_J394 rec k xs L M a11 a13 a14 a15 a16 a17
    else
      zI 0 4 <|
      zL (12 * (M 26 0 (zN 0))) fun v136 =>
      fL_law_L184 (fun M140 v141 => 
        zC (fL_low M140 (a12 >>> (5 &&& 31)) 64) fun r143 M142 =>
        zI v136 48 <| zL (zw M142 27 0 (zN v136) r143) fun M144 =>
        zC (fL_low M144 (a12 >>> (11 &&& 31)) 64) fun r146 M145 =>
        zI (v136 + 1) 48 <| zL (zw M145 27 0 (zN (v136 + 1)) r146) fun M147 =>
        zC (fL_low M147 a13 47) fun r149 M148 =>
        zI (v136 + 2) 48 <| zL (zw M148 27 0 (zN (v136 + 2)) (1 + r149)) fun M150 =>
        zC (fL_low M150 (a13 >>> (6 &&& 31)) 6) fun r152 M151 =>
        zI (v136 + 5) 48 <| zL (zw M151 27 0 (zN (v136 + 5)) r152) fun M153 =>
        zC (fL_low M153 a13 3) fun r155 M154 =>
        if r155 = 0 then
          zC (fL_low M154 (a13 >>> (9 &&& 31)) 191) fun r169 M168 =>
          zI (v136 + 6) 48 <| zL (zw M168 27 0 (zN (v136 + 6)) (10 + r169)) fun M170 =>
          fL_law_J300 rec k xs L M170 a11 a13 v136
        else
          zC (fL_low M154 (a13 >>> (9 &&& 31)) 30) fun r158 M157 =>
          zI (v136 + 6) 48 <| zL (zw M157 27 0 (zN (v136 + 6)) (10 + r158)) fun M159 =>
          fL_law_J300 rec k xs L M159 a11 a13 v136) xs L a11 a12 a13 v136 2000 M 0
  else
    fL_law_J394 rec k xs L M a11 a13 a14 a15 a16 a17
def fL_law_J131 (rec : zM → Int32 → Option (Int32 × zM)) (k : zM → Int32 → Option (Int32 × zM)) (xs : Nat → Int32) (L : Nat) (M : zM) (a11 : Int32) (a12 : Int32) (a13 : Int32) (a14 : Int32) (a15 : Int32) : Option (Int32 × zM) :=
  zL (12 * a15) fun v32 =>
  zI 0 4 <|
  if (M 26 0 (zN 0)) ≤ 0 then
    fL_law_J161 rec k xs L M a11 a12 a13 a14 a15 v32 0
  else
    zI (v32 + 8) 48 <|
    if (M 27 0 (zN (v32 + 8))) = 0 then
      fL_law_J161 rec k xs L M a11 a12 a13 a14 a15 v32 1
    else
      fL_law_J161 rec k xs L M a11 a12 a13 a14 a15 v32 0
def fL_law_J109 (rec : zM → Int32 → Option (Int32 × zM)) (k : zM → Int32 → Option (Int32 × zM)) (xs : Nat → Int32) (L : Nat) (M : zM) (a11 : Int32) (a12 : Int32) (a13 : Int32) (a14 : Int32) : Option (Int32 × zM) :=
  zI 0 4 <|
  if (M 26 0 (zN 0)) = 0 then
    fL_law_J131 rec k xs L M a11 a12 a13 a14 0
  else
    zI 0 4 <|
    zC (fL_low M (a12 >>> (4 &&& 31)) (M 26 0 (zN 0))) fun r31 M30 =>
    fL_law_J131 rec k xs L M30 a11 a12 a13 a14 r31
def fL_law_L61 (k : zM → Int32 → Option (Int32 × zM)) (xs : Nat → Int32) (L : Nat) : Nat → zM → Int32 → Option (Int32 × zM)
  | 0 => fun _ _ => none
  | n + 1 => fun M a11 =>
    if 22 ≤ a11 then
      k M a11
    else
      zC (fL_cell M xs L (2 * a11)) fun r22 M23 =>
      zC (fL_cell M23 xs L ((2 * a11) + 1)) fun r24 M25 =>
      if 3 ≤ a11 then
        zC (fL_low M25 r22 10) fun r28 M27 =>
        fL_law_J109 (fL_law_L61 k xs L n) k xs L M27 a11 r22 r24 r28
      else
        fL_law_J109 (fL_law_L61 k xs L n) k xs L M25 a11 r22 r24 0
section ZLAW
variable {p : Program} {l : Launch} {e : Env} {s : State} {m : MethodId} {below : List Frame} {meth : Method} {c : Code} {cells slots : Nat} {g : zGeo} {b L z : Nat} {xs : Nat → Int32}
set_option maxRecDepth 100000 in
set_option maxHeartbeats 8000000 in
theorem lL_866 (S : CallFix p m c code 21 s #[Value.ref b] zT RL) (hr : meth.sig.returnType = ret) (hg : zAd g z) (hK : zK g s) (hX : va_X b L xs s s.heap) (hbl : b < s.heap.size) (hbz : b < z) (hLL : L ≤ 260) (hcs : cells ≤ room_1.cells ∧ slots ≤ room_1.slots) {M' : zM} : ∀ (k : zM → Int32 → Int32 → Option (Int32 × zM)) (a11 : Int32) (a13 : Int32) (a18 : Int32), (∀ (M : zM) (a19 : Int32) (a20 : Int32) (H : Heap) (locs : List Loc), zR g M H → va_S (zS z) s.heap H locs → ∀ ls : Array Slot, lv_has ls 21 [(0, .ref b), (1, .ref (g.1 0 0)), (2, .ref (g.1 26 0)), (3, .ref (g.1 27 0)), (4, .ref (g.1 28 0)), (5, .ref (g.1 29 0)), (6, .ref (g.1 30 0)), (7, .ref (g.1 31 0)), (8, .ref (g.1 32 0)), (9, .ref (g.1 33 0)), (10, .ref (g.1 34 0)), (11, .int a11), (13, .int a13), (18, .int a18), (19, .int a19), (20, .int a20)] → k M a19 a20 = some (1, M') → W p l e room_1 s m #[Value.ref b] below meth c H locs cells slots (lw_Z below #[Value.ref b] s) (F0 m 898 ls [])) → ∀ (n : Nat) (M : zM) (a19 : Int32) (a20 : Int32) (H : Heap) (locs : List Loc), zR g M H → va_S (zS z) s.heap H locs → ∀ ls : Array Slot, lv_has ls 21 [(0, .ref b), (1, .ref (g.1 0 0)), (2, .ref (g.1 26 0)), (3, .ref (g.1 27 0)), (4, .ref (g.1 28 0)), (5, .ref (g.1 29 0)), (6, .ref (g.1 30 0)), (7, .ref (g.1 31 0)), (8, .ref (g.1 32 0)), (9, .ref (g.1 33 0)), (10, .ref (g.1 34 0)), (11, .int a11), (13, .int a13), (18, .int a18), (19, .int a19), (20, .int a20)] → fL_law_L866 k xs L a11 a13 a18 n M a19 a20 = some (1, M') → W p l e room_1 s m #[Value.ref b] below meth c H locs cells slots (lw_Z below #[Value.ref b] s) (F0 m 866 ls []) := by
    intro k a11 a13 a18 hk n
    induction n with
    | zero =>
      intro M a19 a20 H locs hR hS ls hl hF
      cases hF
    | succ n ih =>
      intro M a19 a20 H locs hR hS ls hl hF
      unfold fL_law_L866 at hF
      refine lv_iload S.1 S.2.1 dL_law_866 (lv_at hl 15 rfl) ?_
      refine lv_iload S.1 S.2.1 dL_law_868 (lv_at hl 13 rfl) ?_
      refine lv_icmp_ge (tgt := 898) S.1 S.2.1 dL_law_870 (by decide) (fun hc42 => ?_) (fun hc42 => ?_)
      · replace hF := z_ct hF hc42
        exact hk _ _ _ _ _ hR hS _ (lv_sub hl [0, 1, 2, 3, 4, 5, 6, 7, 8, 9, 10, 11, 12, 13, 14, 15] rfl) hF
      · replace hF := z_cf hF hc42
        refine lv_iload S.1 S.2.1 dL_law_873 (lv_at hl 14 rfl) ?_
        refine lv_aload_n S.1 S.2.1 dL_law_875 rfl (lv_at hl 2 rfl) ?_
        refine lv_aload_n S.1 S.2.1 dL_law_876 rfl (lv_at hl 3 rfl) ?_
        refine lv_aload S.1 S.2.1 dL_law_877 (lv_at hl 4 rfl) ?_
        refine lv_aload S.1 S.2.1 dL_law_879 (lv_at hl 5 rfl) ?_
        refine lv_aload S.1 S.2.1 dL_law_881 (lv_at hl 6 rfl) ?_
        refine z_goi hS hF (fun _ _ ho => va_runS (n := 5) (As := [.ref (g.1 26 0), .ref (g.1 27 0), .ref (g.1 28 0), .ref (g.1 29 0), .ref (g.1 30 0)]) (rest := [.int a19]) S (kL_tick l hg (by decide) rfl (by decide) rfl (by decide) rfl (by decide) rfl (by decide) rfl ho) (va_cwS 5 S.2.2.2.2 (zgS wm_L_53 oL_tick) rfl rfl rfl hL_tick.2 ⟨Nat.le_of_ble_eq_true rfl, Nat.le_of_ble_eq_true rfl⟩) ⟨zPc_blind, z_pre hK hR⟩ rfl rfl hl.1 rfl (lv_room (Nat.le_of_ble_eq_true rfl)) dL_law_883 hcs) (fun r44 M43 H locs hR hS hF => ?_)
        refine lv_bipush (v := 100) S.1 S.2.1 dL_law_886 (by decide) ?_
        refine z_irem S.1 S.2.1 dL_law_888 (by decide) ?_
        refine lv_ior S.1 S.2.1 dL_law_889 ?_
        refine z_nm hF (fun v45 hF => ?_)
        refine lv_istore (lv' := [(19, .int v45), (0, .ref b), (1, .ref (g.1 0 0)), (2, .ref (g.1 26 0)), (3, .ref (g.1 27 0)), (4, .ref (g.1 28 0)), (5, .ref (g.1 29 0)), (6, .ref (g.1 30 0)), (7, .ref (g.1 31 0)), (8, .ref (g.1 32 0)), (9, .ref (g.1 33 0)), (10, .ref (g.1 34 0)), (11, .int a11), (13, .int a13), (18, .int a18), (20, .int a20)]) S.1 S.2.1 dL_law_890 hl (by decide) rfl (fun ls hl => ?_)
        obtain ⟨v46, ev46, hF⟩ := zL_out hF
        refine lv_iinc (v := v46) (lv' := [(20, .int v46), (19, .int v45), (0, .ref b), (1, .ref (g.1 0 0)), (2, .ref (g.1 26 0)), (3, .ref (g.1 27 0)), (4, .ref (g.1 28 0)), (5, .ref (g.1 29 0)), (6, .ref (g.1 30 0)), (7, .ref (g.1 31 0)), (8, .ref (g.1 32 0)), (9, .ref (g.1 33 0)), (10, .ref (g.1 34 0)), (11, .int a11), (13, .int a13), (18, .int a18)]) S.1 S.2.1 dL_law_892 hl (k := 15) rfl (by rw [← ev46]; rfl) (by decide) rfl (fun ls hl => ?_)
        refine lv_goto (tgt := 866) S.1 S.2.1 dL_law_895 (by decide) ?_
        exact ih _ _ _ _ _ hR hS _ (lv_sub hl [2, 3, 4, 5, 6, 7, 8, 9, 10, 11, 12, 13, 14, 15, 1, 0] rfl) hF
set_option maxRecDepth 100000 in
set_option maxHeartbeats 8000000 in
theorem jL_971 (S : CallFix p m c code 21 s #[Value.ref b] zT RL) (hr : meth.sig.returnType = ret) (hg : zAd g z) (hK : zK g s) (hX : va_X b L xs s s.heap) (hbl : b < s.heap.size) (hbz : b < z) (hLL : L ≤ 260) (hcs : cells ≤ room_1.cells ∧ slots ≤ room_1.slots) {M' : zM} (rec k : zM → Int32 → Option (Int32 × zM)) (ih : ∀ (M : zM) (a11 : Int32) (H : Heap) (locs : List Loc), zR g M H → va_S (zS z) s.heap H locs → ∀ ls : Array Slot, lv_has ls 21 [(0, .ref b), (1, .ref (g.1 0 0)), (2, .ref (g.1 26 0)), (3, .ref (g.1 27 0)), (4, .ref (g.1 28 0)), (5, .ref (g.1 29 0)), (6, .ref (g.1 30 0)), (7, .ref (g.1 31 0)), (8, .ref (g.1 32 0)), (9, .ref (g.1 33 0)), (10, .ref (g.1 34 0)), (11, .int a11)] → rec M a11 = some (1, M') → W p l e room_1 s m #[Value.ref b] below meth c H locs cells slots (lw_Z below #[Value.ref b] s) (F0 m 61 ls [])) (M : zM) (a11 : Int32) (H : Heap) (locs : List Loc) (hR : zR g M H) (hS : va_S (zS z) s.heap H locs) (ls : Array Slot) (hl : lv_has ls 21 [(0, .ref b), (1, .ref (g.1 0 0)), (2, .ref (g.1 26 0)), (3, .ref (g.1 27 0)), (4, .ref (g.1 28 0)), (5, .ref (g.1 29 0)), (6, .ref (g.1 30 0)), (7, .ref (g.1 31 0)), (8, .ref (g.1 32 0)), (9, .ref (g.1 33 0)), (10, .ref (g.1 34 0)), (11, .int a11)]) (hF : fL_law_J971 rec k xs L M a11 = some (1, M')) : W p l e room_1 s m #[Value.ref b] below meth c H locs cells slots (lw_Z below #[Value.ref b] s) (F0 m 971 ls []) := by
  unfold fL_law_J971 at hF
  obtain ⟨v57, ev57, hF⟩ := zL_out hF
  refine lv_iinc (v := v57) (lv' := [(11, .int v57), (0, .ref b), (1, .ref (g.1 0 0)), (2, .ref (g.1 26 0)), (3, .ref (g.1 27 0)), (4, .ref (g.1 28 0)), (5, .ref (g.1 29 0)), (6, .ref (g.1 30 0)), (7, .ref (g.1 31 0)), (8, .ref (g.1 32 0)), (9, .ref (g.1 33 0)), (10, .ref (g.1 34 0))]) S.1 S.2.1 dL_law_971 hl (k := 11) rfl (by rw [← ev57]; rfl) (by decide) rfl (fun ls hl => ?_)
  refine lv_goto (tgt := 61) S.1 S.2.1 dL_law_974 (by decide) ?_
  exact ih _ _ _ _ hR hS _ (lv_sub hl [1, 2, 3, 4, 5, 6, 7, 8, 9, 10, 11, 0] rfl) hF
set_option maxRecDepth 100000 in
set_option maxHeartbeats 8000000 in
theorem jL_911 (S : CallFix p m c code 21 s #[Value.ref b] zT RL) (hr : meth.sig.returnType = ret) (hg : zAd g z) (hK : zK g s) (hX : va_X b L xs s s.heap) (hbl : b < s.heap.size) (hbz : b < z) (hLL : L ≤ 260) (hcs : cells ≤ room_1.cells ∧ slots ≤ room_1.slots) {M' : zM} (rec k : zM → Int32 → Option (Int32 × zM)) (ih : ∀ (M : zM) (a11 : Int32) (H : Heap) (locs : List Loc), zR g M H → va_S (zS z) s.heap H locs → ∀ ls : Array Slot, lv_has ls 21 [(0, .ref b), (1, .ref (g.1 0 0)), (2, .ref (g.1 26 0)), (3, .ref (g.1 27 0)), (4, .ref (g.1 28 0)), (5, .ref (g.1 29 0)), (6, .ref (g.1 30 0)), (7, .ref (g.1 31 0)), (8, .ref (g.1 32 0)), (9, .ref (g.1 33 0)), (10, .ref (g.1 34 0)), (11, .int a11)] → rec M a11 = some (1, M') → W p l e room_1 s m #[Value.ref b] below meth c H locs cells slots (lw_Z below #[Value.ref b] s) (F0 m 61 ls [])) (M : zM) (a11 : Int32) (a13 : Int32) (H : Heap) (locs : List Loc) (hR : zR g M H) (hS : va_S (zS z) s.heap H locs) (ls : Array Slot) (hl : lv_has ls 21 [(0, .ref b), (1, .ref (g.1 0 0)), (2, .ref (g.1 26 0)), (3, .ref (g.1 27 0)), (4, .ref (g.1 28 0)), (5, .ref (g.1 29 0)), (6, .ref (g.1 30 0)), (7, .ref (g.1 31 0)), (8, .ref (g.1 32 0)), (9, .ref (g.1 33 0)), (10, .ref (g.1 34 0)), (11, .int a11), (13, .int a13)]) (hF : fL_law_J911 rec k xs L M a11 a13 = some (1, M')) : W p l e room_1 s m #[Value.ref b] below meth c H locs cells slots (lw_Z below #[Value.ref b] s) (F0 m 911 ls []) := by
  unfold fL_law_J911 at hF
  refine lv_aload_n S.1 S.2.1 dL_law_911 rfl (lv_at hl 1 rfl) ?_
  refine lv_aload_n S.1 S.2.1 dL_law_912 rfl (lv_at hl 2 rfl) ?_
  refine lv_aload_n S.1 S.2.1 dL_law_913 rfl (lv_at hl 3 rfl) ?_
  refine lv_aload S.1 S.2.1 dL_law_914 (lv_at hl 4 rfl) ?_
  refine lv_aload S.1 S.2.1 dL_law_916 (lv_at hl 5 rfl) ?_
  refine z_goi hS hF (fun _ _ ho => va_runS (n := 5) (As := [.ref (g.1 0 0), .ref (g.1 26 0), .ref (g.1 27 0), .ref (g.1 28 0), .ref (g.1 29 0)]) (rest := []) S (kL_same l hg ho) (va_cwS 5 S.2.2.2.2 (zgS wm_L_91 oL_same) rfl rfl rfl hL_same.2 ⟨Nat.le_of_ble_eq_true rfl, Nat.le_of_ble_eq_true rfl⟩) ⟨zPc_blind, z_pre hK hR⟩ rfl rfl hl.1 rfl (lv_room (Nat.le_of_ble_eq_true rfl)) dL_law_918 hcs) (fun r54 M53 H locs hR hS hF => ?_)
  refine lv_if_eq (tgt := 969) S.1 S.2.1 dL_law_921 (by decide) (fun hc55 => ?_) (fun hc55 => ?_)
  · replace hF := z_ct hF hc55
    refine lv_iconst (v := 0) S.1 S.2.1 dL_law_969 (by decide) ?_
    exact (z_no hF).elim
  · replace hF := z_cf hF hc55
    refine lv_aload_n S.1 S.2.1 dL_law_924 rfl (lv_at hl 2 rfl) ?_
    refine lv_iconst (v := 0) S.1 S.2.1 dL_law_925 (by decide) ?_
    refine z_iald (k := 26) (i := 0) (n := 4) S hK hR hF (by decide) rfl dL_law_926 (fun hF => ?_)
    refine lv_if_le (tgt := 971) S.1 S.2.1 dL_law_927 (by decide) (fun hc56 => ?_) (fun hc56 => ?_)
    · replace hF := z_ct hF hc56
      exact jL_971 S hr hg hK hX hbl hbz hLL hcs _ _ ih _ _ _ _ hR hS _ (lv_sub hl [0, 1, 2, 3, 4, 5, 6, 7, 8, 9, 10, 11] rfl) hF
    · replace hF := z_cf hF hc56
      refine lv_iload S.1 S.2.1 dL_law_930 (lv_at hl 12 rfl) ?_
      refine lv_bipush (v := 12) S.1 S.2.1 dL_law_932 (by decide) ?_
      refine lv_ishr S.1 S.2.1 dL_law_934 ?_
      refine lv_iconst (v := 4) S.1 S.2.1 dL_law_935 (by decide) ?_
      refine z_goi hS hF (fun _ _ ho => va_runS (n := 2) (As := [.int (a13 >>> (12 &&& 31)), .int 4]) (rest := []) S (kL_low l hg ho) (va_cwS 2 S.2.2.2.2 (zgS wm_L_50 oL_low) rfl rfl rfl hL_low.2 ⟨Nat.le_of_ble_eq_true rfl, Nat.le_of_ble_eq_true rfl⟩) ⟨zPc_blind, z_pre hK hR⟩ rfl rfl hl.1 rfl (lv_room (Nat.le_of_ble_eq_true rfl)) dL_law_936 hcs) (fun r59 M58 H locs hR hS hF => ?_)
      refine lv_if_ne (tgt := 971) S.1 S.2.1 dL_law_939 (by decide) (fun hc60 => ?_) (fun hc60 => ?_)
      · replace hF := z_cf hF hc60
        exact jL_971 S hr hg hK hX hbl hbz hLL hcs _ _ ih _ _ _ _ hR hS _ (lv_sub hl [0, 1, 2, 3, 4, 5, 6, 7, 8, 9, 10, 11] rfl) hF
      · replace hF := z_ct hF hc60
        refine lv_aload_n S.1 S.2.1 dL_law_942 rfl (lv_at hl 1 rfl) ?_
        refine lv_iload S.1 S.2.1 dL_law_943 (lv_at hl 12 rfl) ?_
        refine lv_iconst (v := 3) S.1 S.2.1 dL_law_945 (by decide) ?_
        refine lv_ishr S.1 S.2.1 dL_law_946 ?_
        refine lv_aload_n S.1 S.2.1 dL_law_947 rfl (lv_at hl 2 rfl) ?_
        refine lv_aload_n S.1 S.2.1 dL_law_948 rfl (lv_at hl 3 rfl) ?_
        refine lv_aload S.1 S.2.1 dL_law_949 (lv_at hl 4 rfl) ?_
        refine lv_aload S.1 S.2.1 dL_law_951 (lv_at hl 5 rfl) ?_
        refine lv_aload S.1 S.2.1 dL_law_953 (lv_at hl 6 rfl) ?_
        refine lv_aload S.1 S.2.1 dL_law_955 (lv_at hl 7 rfl) ?_
        refine lv_aload S.1 S.2.1 dL_law_957 (lv_at hl 8 rfl) ?_
        refine lv_aload S.1 S.2.1 dL_law_959 (lv_at hl 9 rfl) ?_
        refine lv_aload S.1 S.2.1 dL_law_961 (lv_at hl 10 rfl) ?_
        refine z_goi hS hF (fun _ _ ho => va_runS (n := 11) (As := [.ref (g.1 0 0), .int (a13 >>> (3 &&& 31)), .ref (g.1 26 0), .ref (g.1 27 0), .ref (g.1 28 0), .ref (g.1 29 0), .ref (g.1 30 0), .ref (g.1 31 0), .ref (g.1 32 0), .ref (g.1 33 0), .ref (g.1 34 0)]) (rest := []) S (kL_would l hg ho) (va_cwS 11 S.2.2.2.2 (zgS wm_L_95 oL_would) rfl rfl rfl hL_would.2 ⟨Nat.le_of_ble_eq_true rfl, Nat.le_of_ble_eq_true rfl⟩) ⟨zPc_blind, z_pre hK hR⟩ rfl rfl hl.1 rfl (lv_room (Nat.le_of_ble_eq_true rfl)) dL_law_963 hcs) (fun r62 M61 H locs hR hS hF => ?_)
        refine lv_if_ne (tgt := 971) S.1 S.2.1 dL_law_966 (by decide) (fun hc63 => ?_) (fun hc63 => ?_)
        · replace hF := z_cf hF hc63
          exact jL_971 S hr hg hK hX hbl hbz hLL hcs _ _ ih _ _ _ _ hR hS _ (lv_sub hl [0, 1, 2, 3, 4, 5, 6, 7, 8, 9, 10, 11] rfl) hF
        · replace hF := z_ct hF hc63
          refine lv_iconst (v := 0) S.1 S.2.1 dL_law_969 (by decide) ?_
          exact (z_no hF).elim
set_option maxRecDepth 100000 in
set_option maxHeartbeats 8000000 in
theorem jL_849 (S : CallFix p m c code 21 s #[Value.ref b] zT RL) (hr : meth.sig.returnType = ret) (hg : zAd g z) (hK : zK g s) (hX : va_X b L xs s s.heap) (hbl : b < s.heap.size) (hbz : b < z) (hLL : L ≤ 260) (hcs : cells ≤ room_1.cells ∧ slots ≤ room_1.slots) {M' : zM} (rec k : zM → Int32 → Option (Int32 × zM)) (ih : ∀ (M : zM) (a11 : Int32) (H : Heap) (locs : List Loc), zR g M H → va_S (zS z) s.heap H locs → ∀ ls : Array Slot, lv_has ls 21 [(0, .ref b), (1, .ref (g.1 0 0)), (2, .ref (g.1 26 0)), (3, .ref (g.1 27 0)), (4, .ref (g.1 28 0)), (5, .ref (g.1 29 0)), (6, .ref (g.1 30 0)), (7, .ref (g.1 31 0)), (8, .ref (g.1 32 0)), (9, .ref (g.1 33 0)), (10, .ref (g.1 34 0)), (11, .int a11)] → rec M a11 = some (1, M') → W p l e room_1 s m #[Value.ref b] below meth c H locs cells slots (lw_Z below #[Value.ref b] s) (F0 m 61 ls [])) (M : zM) (a11 : Int32) (a13 : Int32) (H : Heap) (locs : List Loc) (hR : zR g M H) (hS : va_S (zS z) s.heap H locs) (ls : Array Slot) (hl : lv_has ls 21 [(0, .ref b), (1, .ref (g.1 0 0)), (2, .ref (g.1 26 0)), (3, .ref (g.1 27 0)), (4, .ref (g.1 28 0)), (5, .ref (g.1 29 0)), (6, .ref (g.1 30 0)), (7, .ref (g.1 31 0)), (8, .ref (g.1 32 0)), (9, .ref (g.1 33 0)), (10, .ref (g.1 34 0)), (11, .int a11), (13, .int a13)]) (hF : fL_law_J849 rec k xs L M a11 a13 = some (1, M')) : W p l e room_1 s m #[Value.ref b] below meth c H locs cells slots (lw_Z below #[Value.ref b] s) (F0 m 849 ls []) := by
  unfold fL_law_J849 at hF
  refine lv_iconst (v := 1) S.1 S.2.1 dL_law_849 (by decide) ?_
  refine lv_iload S.1 S.2.1 dL_law_850 (lv_at hl 12 rfl) ?_
  refine lv_bipush (v := 12) S.1 S.2.1 dL_law_852 (by decide) ?_
  refine z_goi hS hF (fun _ _ ho => va_runS (n := 2) (As := [.int a13, .int 12]) (rest := [.int 1]) S (kL_low l hg ho) (va_cwS 2 S.2.2.2.2 (zgS wm_L_50 oL_low) rfl rfl rfl hL_low.2 ⟨Nat.le_of_ble_eq_true rfl, Nat.le_of_ble_eq_true rfl⟩) ⟨zPc_blind, z_pre hK hR⟩ rfl rfl hl.1 rfl (lv_room (Nat.le_of_ble_eq_true rfl)) dL_law_854 hcs) (fun r40 M39 H locs hR hS hF => ?_)
  refine lv_iadd S.1 S.2.1 dL_law_857 ?_
  refine z_nm hF (fun v41 hF => ?_)
  refine lv_istore (lv' := [(18, .int v41), (0, .ref b), (1, .ref (g.1 0 0)), (2, .ref (g.1 26 0)), (3, .ref (g.1 27 0)), (4, .ref (g.1 28 0)), (5, .ref (g.1 29 0)), (6, .ref (g.1 30 0)), (7, .ref (g.1 31 0)), (8, .ref (g.1 32 0)), (9, .ref (g.1 33 0)), (10, .ref (g.1 34 0)), (11, .int a11), (13, .int a13)]) S.1 S.2.1 dL_law_858 hl (by decide) rfl (fun ls hl => ?_)
  refine lv_iconst (v := 0) S.1 S.2.1 dL_law_860 (by decide) ?_
  refine lv_istore (lv' := [(19, .int 0), (18, .int v41), (0, .ref b), (1, .ref (g.1 0 0)), (2, .ref (g.1 26 0)), (3, .ref (g.1 27 0)), (4, .ref (g.1 28 0)), (5, .ref (g.1 29 0)), (6, .ref (g.1 30 0)), (7, .ref (g.1 31 0)), (8, .ref (g.1 32 0)), (9, .ref (g.1 33 0)), (10, .ref (g.1 34 0)), (11, .int a11), (13, .int a13)]) S.1 S.2.1 dL_law_861 hl (by decide) rfl (fun ls hl => ?_)
  refine lv_iconst (v := 0) S.1 S.2.1 dL_law_863 (by decide) ?_
  refine lv_istore (lv' := [(20, .int 0), (19, .int 0), (18, .int v41), (0, .ref b), (1, .ref (g.1 0 0)), (2, .ref (g.1 26 0)), (3, .ref (g.1 27 0)), (4, .ref (g.1 28 0)), (5, .ref (g.1 29 0)), (6, .ref (g.1 30 0)), (7, .ref (g.1 31 0)), (8, .ref (g.1 32 0)), (9, .ref (g.1 33 0)), (10, .ref (g.1 34 0)), (11, .int a11), (13, .int a13)]) S.1 S.2.1 dL_law_864 hl (by decide) rfl (fun ls hl => ?_)
  refine lL_866 S hr hg hK hX hbl hbz hLL hcs _ _ _ _ (fun M47 v48 v49 H locs hR hS ls hl hF => ?_) _ _ _ _ _ _ hR hS _ (lv_sub hl [3, 4, 5, 6, 7, 8, 9, 10, 11, 12, 13, 14, 15, 2, 1, 0] rfl) hF
  refine lv_aload_n S.1 S.2.1 dL_law_898 rfl (lv_at hl 1 rfl) ?_
  refine lv_iload S.1 S.2.1 dL_law_899 (lv_at hl 13 rfl) ?_
  refine z_goi hS hF (fun _ _ ho => va_runV (C := RX6) (n := 1) (As := [.int v41]) (rest := []) S (kX6_pass l hg ho) (cwV 1 S.2.2.2.2 (zgV wm_L_88 oX6_pass) rfl rfl rfl hX6_pass ⟨Nat.le_of_ble_eq_true rfl, Nat.le_of_ble_eq_true rfl⟩) ⟨zPc_blind, z_recv hK hR (by decide) rfl rfl, z_pre hK hR⟩ rfl rfl hl.1 rfl (lv_room (Nat.le_of_ble_eq_true rfl)) dL_law_901 hcs) (fun r51 M50 H locs hR hS hF => ?_)
  refine lv_iload S.1 S.2.1 dL_law_904 (lv_at hl 14 rfl) ?_
  refine lv_icmp_eq (tgt := 911) S.1 S.2.1 dL_law_906 (by decide) (fun hc52 => ?_) (fun hc52 => ?_)
  · replace hF := z_ct hF hc52
    exact jL_911 S hr hg hK hX hbl hbz hLL hcs _ _ ih _ _ _ _ _ hR hS _ (lv_sub hl [0, 1, 2, 3, 4, 5, 6, 7, 8, 9, 10, 11, 12] rfl) hF
  · replace hF := z_cf hF hc52
    refine lv_iconst (v := 0) S.1 S.2.1 dL_law_909 (by decide) ?_
    exact (z_no hF).elim
set_option maxRecDepth 100000 in
set_option maxHeartbeats 8000000 in
theorem lL_704 (S : CallFix p m c code 21 s #[Value.ref b] zT RL) (hr : meth.sig.returnType = ret) (hg : zAd g z) (hK : zK g s) (hX : va_X b L xs s s.heap) (hbl : b < s.heap.size) (hbz : b < z) (hLL : L ≤ 260) (hcs : cells ≤ room_1.cells ∧ slots ≤ room_1.slots) {M' : zM} : ∀ (k : zM → Int32 → Option (Int32 × zM)) (a11 : Int32) (a13 : Int32), (∀ (M : zM) (a18 : Int32) (H : Heap) (locs : List Loc), zR g M H → va_S (zS z) s.heap H locs → ∀ ls : Array Slot, lv_has ls 21 [(0, .ref b), (1, .ref (g.1 0 0)), (2, .ref (g.1 26 0)), (3, .ref (g.1 27 0)), (4, .ref (g.1 28 0)), (5, .ref (g.1 29 0)), (6, .ref (g.1 30 0)), (7, .ref (g.1 31 0)), (8, .ref (g.1 32 0)), (9, .ref (g.1 33 0)), (10, .ref (g.1 34 0)), (11, .int a11), (13, .int a13), (18, .int a18)] → k M a18 = some (1, M') → W p l e room_1 s m #[Value.ref b] below meth c H locs cells slots (lw_Z below #[Value.ref b] s) (F0 m 804 ls [])) → ∀ (n : Nat) (M : zM) (a18 : Int32) (H : Heap) (locs : List Loc), zR g M H → va_S (zS z) s.heap H locs → ∀ ls : Array Slot, lv_has ls 21 [(0, .ref b), (1, .ref (g.1 0 0)), (2, .ref (g.1 26 0)), (3, .ref (g.1 27 0)), (4, .ref (g.1 28 0)), (5, .ref (g.1 29 0)), (6, .ref (g.1 30 0)), (7, .ref (g.1 31 0)), (8, .ref (g.1 32 0)), (9, .ref (g.1 33 0)), (10, .ref (g.1 34 0)), (11, .int a11), (13, .int a13), (18, .int a18)] → fL_law_L704 k xs L a11 a13 n M a18 = some (1, M') → W p l e room_1 s m #[Value.ref b] below meth c H locs cells slots (lw_Z below #[Value.ref b] s) (F0 m 704 ls []) := by
    intro k a11 a13 hk n
    induction n with
    | zero =>
      intro M a18 H locs hR hS ls hl hF
      cases hF
    | succ n ih =>
      intro M a18 H locs hR hS ls hl hF
      unfold fL_law_L704 at hF
      refine lv_iload S.1 S.2.1 dL_law_704 (lv_at hl 13 rfl) ?_
      refine lv_aload_n S.1 S.2.1 dL_law_706 rfl (lv_at hl 2 rfl) ?_
      refine lv_iconst (v := 0) S.1 S.2.1 dL_law_707 (by decide) ?_
      refine z_iald (k := 26) (i := 0) (n := 4) S hK hR hF (by decide) rfl dL_law_708 (fun hF => ?_)
      refine lv_icmp_ge (tgt := 804) S.1 S.2.1 dL_law_709 (by decide) (fun hc67 => ?_) (fun hc67 => ?_)
      · replace hF := z_ct hF hc67
        exact hk _ _ _ _ hR hS _ (lv_sub hl [0, 1, 2, 3, 4, 5, 6, 7, 8, 9, 10, 11, 12, 13] rfl) hF
      · replace hF := z_cf hF hc67
        refine lv_aload_n S.1 S.2.1 dL_law_712 rfl (lv_at hl 3 rfl) ?_
        refine lv_bipush (v := 12) S.1 S.2.1 dL_law_713 (by decide) ?_
        refine lv_iload S.1 S.2.1 dL_law_715 (lv_at hl 13 rfl) ?_
        refine lv_imul S.1 S.2.1 dL_law_717 ?_
        refine lv_aload_n S.1 S.2.1 dL_law_718 rfl (lv_at hl 3 rfl) ?_
        refine lv_bipush (v := 12) S.1 S.2.1 dL_law_719 (by decide) ?_
        refine lv_iload S.1 S.2.1 dL_law_721 (lv_at hl 13 rfl) ?_
        refine lv_imul S.1 S.2.1 dL_law_723 ?_
        refine lv_bipush (v := 9) S.1 S.2.1 dL_law_724 (by decide) ?_
        refine lv_iadd S.1 S.2.1 dL_law_726 ?_
        refine z_iald (k := 27) (i := 0) (n := 48) S hK hR hF (by decide) rfl dL_law_727 (fun hF => ?_)
        refine z_iast (k := 27) (i := 0) (n := 48) S hg hK hR hS hF (by decide) rfl dL_law_728 (fun H locs M68 hR hS hF => ?_)
        refine lv_aload_n S.1 S.2.1 dL_law_729 rfl (lv_at hl 3 rfl) ?_
        refine lv_bipush (v := 12) S.1 S.2.1 dL_law_730 (by decide) ?_
        refine lv_iload S.1 S.2.1 dL_law_732 (lv_at hl 13 rfl) ?_
        refine lv_imul S.1 S.2.1 dL_law_734 ?_
        refine lv_iconst (v := 1) S.1 S.2.1 dL_law_735 (by decide) ?_
        refine lv_iadd S.1 S.2.1 dL_law_736 ?_
        refine lv_aload_n S.1 S.2.1 dL_law_737 rfl (lv_at hl 3 rfl) ?_
        refine lv_bipush (v := 12) S.1 S.2.1 dL_law_738 (by decide) ?_
        refine lv_iload S.1 S.2.1 dL_law_740 (lv_at hl 13 rfl) ?_
        refine lv_imul S.1 S.2.1 dL_law_742 ?_
        refine lv_bipush (v := 10) S.1 S.2.1 dL_law_743 (by decide) ?_
        refine lv_iadd S.1 S.2.1 dL_law_745 ?_
        refine z_iald (k := 27) (i := 0) (n := 48) S hK hR hF (by decide) rfl dL_law_746 (fun hF => ?_)
        refine z_iast (k := 27) (i := 0) (n := 48) S hg hK hR hS hF (by decide) rfl dL_law_747 (fun H locs M69 hR hS hF => ?_)
        refine lv_aload_n S.1 S.2.1 dL_law_748 rfl (lv_at hl 3 rfl) ?_
        refine lv_bipush (v := 12) S.1 S.2.1 dL_law_749 (by decide) ?_
        refine lv_iload S.1 S.2.1 dL_law_751 (lv_at hl 13 rfl) ?_
        refine lv_imul S.1 S.2.1 dL_law_753 ?_
        refine lv_iconst (v := 2) S.1 S.2.1 dL_law_754 (by decide) ?_
        refine lv_iadd S.1 S.2.1 dL_law_755 ?_
        refine lv_aload_n S.1 S.2.1 dL_law_756 rfl (lv_at hl 3 rfl) ?_
        refine lv_bipush (v := 12) S.1 S.2.1 dL_law_757 (by decide) ?_
        refine lv_iload S.1 S.2.1 dL_law_759 (lv_at hl 13 rfl) ?_
        refine lv_imul S.1 S.2.1 dL_law_761 ?_
        refine lv_bipush (v := 11) S.1 S.2.1 dL_law_762 (by decide) ?_
        refine lv_iadd S.1 S.2.1 dL_law_764 ?_
        refine z_iald (k := 27) (i := 0) (n := 48) S hK hR hF (by decide) rfl dL_law_765 (fun hF => ?_)
        refine z_iast (k := 27) (i := 0) (n := 48) S hg hK hR hS hF (by decide) rfl dL_law_766 (fun H locs M70 hR hS hF => ?_)
        refine lv_aload_n S.1 S.2.1 dL_law_767 rfl (lv_at hl 3 rfl) ?_
        refine lv_bipush (v := 12) S.1 S.2.1 dL_law_768 (by decide) ?_
        refine lv_iload S.1 S.2.1 dL_law_770 (lv_at hl 13 rfl) ?_
        refine lv_imul S.1 S.2.1 dL_law_772 ?_
        refine lv_iconst (v := 3) S.1 S.2.1 dL_law_773 (by decide) ?_
        refine lv_iadd S.1 S.2.1 dL_law_774 ?_
        refine lv_iconst (v := 0) S.1 S.2.1 dL_law_775 (by decide) ?_
        refine z_iast (k := 27) (i := 0) (n := 48) S hg hK hR hS hF (by decide) rfl dL_law_776 (fun H locs M71 hR hS hF => ?_)
        refine lv_aload_n S.1 S.2.1 dL_law_777 rfl (lv_at hl 3 rfl) ?_
        refine lv_bipush (v := 12) S.1 S.2.1 dL_law_778 (by decide) ?_
        refine lv_iload S.1 S.2.1 dL_law_780 (lv_at hl 13 rfl) ?_
        refine lv_imul S.1 S.2.1 dL_law_782 ?_
        refine lv_iconst (v := 4) S.1 S.2.1 dL_law_783 (by decide) ?_
        refine lv_iadd S.1 S.2.1 dL_law_784 ?_
        refine lv_iconst (v := 0) S.1 S.2.1 dL_law_785 (by decide) ?_
        refine z_iast (k := 27) (i := 0) (n := 48) S hg hK hR hS hF (by decide) rfl dL_law_786 (fun H locs M72 hR hS hF => ?_)
        refine lv_aload_n S.1 S.2.1 dL_law_787 rfl (lv_at hl 3 rfl) ?_
        refine lv_bipush (v := 12) S.1 S.2.1 dL_law_788 (by decide) ?_
        refine lv_iload S.1 S.2.1 dL_law_790 (lv_at hl 13 rfl) ?_
        refine lv_imul S.1 S.2.1 dL_law_792 ?_
        refine lv_bipush (v := 8) S.1 S.2.1 dL_law_793 (by decide) ?_
        refine lv_iadd S.1 S.2.1 dL_law_795 ?_
        refine lv_iconst (v := 0) S.1 S.2.1 dL_law_796 (by decide) ?_
        refine z_iast (k := 27) (i := 0) (n := 48) S hg hK hR hS hF (by decide) rfl dL_law_797 (fun H locs M73 hR hS hF => ?_)
        obtain ⟨v74, ev74, hF⟩ := zL_out hF
        refine lv_iinc (v := v74) (lv' := [(18, .int v74), (0, .ref b), (1, .ref (g.1 0 0)), (2, .ref (g.1 26 0)), (3, .ref (g.1 27 0)), (4, .ref (g.1 28 0)), (5, .ref (g.1 29 0)), (6, .ref (g.1 30 0)), (7, .ref (g.1 31 0)), (8, .ref (g.1 32 0)), (9, .ref (g.1 33 0)), (10, .ref (g.1 34 0)), (11, .int a11), (13, .int a13)]) S.1 S.2.1 dL_law_798 hl (k := 13) rfl (by rw [← ev74]; rfl) (by decide) rfl (fun ls hl => ?_)
        refine lv_goto (tgt := 704) S.1 S.2.1 dL_law_801 (by decide) ?_
        exact ih _ _ _ _ hR hS _ (lv_sub hl [1, 2, 3, 4, 5, 6, 7, 8, 9, 10, 11, 12, 13, 0] rfl) hF
set_option maxRecDepth 100000 in
set_option maxHeartbeats 8000000 in
theorem lL_807 (S : CallFix p m c code 21 s #[Value.ref b] zT RL) (hr : meth.sig.returnType = ret) (hg : zAd g z) (hK : zK g s) (hX : va_X b L xs s s.heap) (hbl : b < s.heap.size) (hbz : b < z) (hLL : L ≤ 260) (hcs : cells ≤ room_1.cells ∧ slots ≤ room_1.slots) {M' : zM} : ∀ (k : zM → Int32 → Option (Int32 × zM)) (a11 : Int32) (a13 : Int32), (∀ (M : zM) (a18 : Int32) (H : Heap) (locs : List Loc), zR g M H → va_S (zS z) s.heap H locs → ∀ ls : Array Slot, lv_has ls 21 [(0, .ref b), (1, .ref (g.1 0 0)), (2, .ref (g.1 26 0)), (3, .ref (g.1 27 0)), (4, .ref (g.1 28 0)), (5, .ref (g.1 29 0)), (6, .ref (g.1 30 0)), (7, .ref (g.1 31 0)), (8, .ref (g.1 32 0)), (9, .ref (g.1 33 0)), (10, .ref (g.1 34 0)), (11, .int a11), (13, .int a13), (18, .int a18)] → k M a18 = some (1, M') → W p l e room_1 s m #[Value.ref b] below meth c H locs cells slots (lw_Z below #[Value.ref b] s) (F0 m 832 ls [])) → ∀ (n : Nat) (M : zM) (a18 : Int32) (H : Heap) (locs : List Loc), zR g M H → va_S (zS z) s.heap H locs → ∀ ls : Array Slot, lv_has ls 21 [(0, .ref b), (1, .ref (g.1 0 0)), (2, .ref (g.1 26 0)), (3, .ref (g.1 27 0)), (4, .ref (g.1 28 0)), (5, .ref (g.1 29 0)), (6, .ref (g.1 30 0)), (7, .ref (g.1 31 0)), (8, .ref (g.1 32 0)), (9, .ref (g.1 33 0)), (10, .ref (g.1 34 0)), (11, .int a11), (13, .int a13), (18, .int a18)] → fL_law_L807 k xs L a11 a13 n M a18 = some (1, M') → W p l e room_1 s m #[Value.ref b] below meth c H locs cells slots (lw_Z below #[Value.ref b] s) (F0 m 807 ls []) := by
    intro k a11 a13 hk n
    induction n with
    | zero =>
      intro M a18 H locs hR hS ls hl hF
      cases hF
    | succ n ih =>
      intro M a18 H locs hR hS ls hl hF
      unfold fL_law_L807 at hF
      refine lv_iload S.1 S.2.1 dL_law_807 (lv_at hl 13 rfl) ?_
      refine lv_bipush (v := 64) S.1 S.2.1 dL_law_809 (by decide) ?_
      refine lv_icmp_ge (tgt := 832) S.1 S.2.1 dL_law_811 (by decide) (fun hc77 => ?_) (fun hc77 => ?_)
      · replace hF := z_ct hF hc77
        exact hk _ _ _ _ hR hS _ (lv_sub hl [0, 1, 2, 3, 4, 5, 6, 7, 8, 9, 10, 11, 12, 13] rfl) hF
      · replace hF := z_cf hF hc77
        refine lv_aload S.1 S.2.1 dL_law_814 (lv_at hl 4 rfl) ?_
        refine lv_iload S.1 S.2.1 dL_law_816 (lv_at hl 13 rfl) ?_
        refine lv_iconst (v := 0) S.1 S.2.1 dL_law_818 (by decide) ?_
        refine z_iast (k := 28) (i := 0) (n := 64) S hg hK hR hS hF (by decide) rfl dL_law_819 (fun H locs M78 hR hS hF => ?_)
        refine lv_aload S.1 S.2.1 dL_law_820 (lv_at hl 5 rfl) ?_
        refine lv_iload S.1 S.2.1 dL_law_822 (lv_at hl 13 rfl) ?_
        refine lv_iconst (v := 0) S.1 S.2.1 dL_law_824 (by decide) ?_
        refine z_iast (k := 29) (i := 0) (n := 64) S hg hK hR hS hF (by decide) rfl dL_law_825 (fun H locs M79 hR hS hF => ?_)
        obtain ⟨v80, ev80, hF⟩ := zL_out hF
        refine lv_iinc (v := v80) (lv' := [(18, .int v80), (0, .ref b), (1, .ref (g.1 0 0)), (2, .ref (g.1 26 0)), (3, .ref (g.1 27 0)), (4, .ref (g.1 28 0)), (5, .ref (g.1 29 0)), (6, .ref (g.1 30 0)), (7, .ref (g.1 31 0)), (8, .ref (g.1 32 0)), (9, .ref (g.1 33 0)), (10, .ref (g.1 34 0)), (11, .int a11), (13, .int a13)]) S.1 S.2.1 dL_law_826 hl (k := 13) rfl (by rw [← ev80]; rfl) (by decide) rfl (fun ls hl => ?_)
        refine lv_goto (tgt := 807) S.1 S.2.1 dL_law_829 (by decide) ?_
        exact ih _ _ _ _ hR hS _ (lv_sub hl [1, 2, 3, 4, 5, 6, 7, 8, 9, 10, 11, 12, 13, 0] rfl) hF
set_option maxRecDepth 100000 in
set_option maxHeartbeats 8000000 in
theorem jL_685 (S : CallFix p m c code 21 s #[Value.ref b] zT RL) (hr : meth.sig.returnType = ret) (hg : zAd g z) (hK : zK g s) (hX : va_X b L xs s s.heap) (hbl : b < s.heap.size) (hbz : b < z) (hLL : L ≤ 260) (hcs : cells ≤ room_1.cells ∧ slots ≤ room_1.slots) {M' : zM} (rec k : zM → Int32 → Option (Int32 × zM)) (ih : ∀ (M : zM) (a11 : Int32) (H : Heap) (locs : List Loc), zR g M H → va_S (zS z) s.heap H locs → ∀ ls : Array Slot, lv_has ls 21 [(0, .ref b), (1, .ref (g.1 0 0)), (2, .ref (g.1 26 0)), (3, .ref (g.1 27 0)), (4, .ref (g.1 28 0)), (5, .ref (g.1 29 0)), (6, .ref (g.1 30 0)), (7, .ref (g.1 31 0)), (8, .ref (g.1 32 0)), (9, .ref (g.1 33 0)), (10, .ref (g.1 34 0)), (11, .int a11)] → rec M a11 = some (1, M') → W p l e room_1 s m #[Value.ref b] below meth c H locs cells slots (lw_Z below #[Value.ref b] s) (F0 m 61 ls [])) (M : zM) (a11 : Int32) (a13 : Int32) (a14 : Int32) (H : Heap) (locs : List Loc) (hR : zR g M H) (hS : va_S (zS z) s.heap H locs) (ls : Array Slot) (hl : lv_has ls 21 [(0, .ref b), (1, .ref (g.1 0 0)), (2, .ref (g.1 26 0)), (3, .ref (g.1 27 0)), (4, .ref (g.1 28 0)), (5, .ref (g.1 29 0)), (6, .ref (g.1 30 0)), (7, .ref (g.1 31 0)), (8, .ref (g.1 32 0)), (9, .ref (g.1 33 0)), (10, .ref (g.1 34 0)), (11, .int a11), (13, .int a13), (14, .int a14)]) (hF : fL_law_J685 rec k xs L M a11 a13 a14 = some (1, M')) : W p l e room_1 s m #[Value.ref b] below meth c H locs cells slots (lw_Z below #[Value.ref b] s) (F0 m 685 ls []) := by
  unfold fL_law_J685 at hF
  refine lv_iload S.1 S.2.1 dL_law_685 (lv_at hl 13 rfl) ?_
  refine lv_bipush (v := 6) S.1 S.2.1 dL_law_687 (by decide) ?_
  refine lv_icmp_ne (tgt := 849) S.1 S.2.1 dL_law_689 (by decide) (fun hc38 => ?_) (fun hc38 => ?_)
  · replace hF := z_cf hF hc38
    exact jL_849 S hr hg hK hX hbl hbz hLL hcs _ _ ih _ _ _ _ _ hR hS _ (lv_sub hl [0, 1, 2, 3, 4, 5, 6, 7, 8, 9, 10, 11, 12] rfl) hF
  · replace hF := z_ct hF hc38
    refine lv_iload S.1 S.2.1 dL_law_692 (lv_at hl 12 rfl) ?_
    refine lv_iconst (v := 2) S.1 S.2.1 dL_law_694 (by decide) ?_
    refine z_goi hS hF (fun _ _ ho => va_runS (n := 2) (As := [.int a13, .int 2]) (rest := []) S (kL_low l hg ho) (va_cwS 2 S.2.2.2.2 (zgS wm_L_50 oL_low) rfl rfl rfl hL_low.2 ⟨Nat.le_of_ble_eq_true rfl, Nat.le_of_ble_eq_true rfl⟩) ⟨zPc_blind, z_pre hK hR⟩ rfl rfl hl.1 rfl (lv_room (Nat.le_of_ble_eq_true rfl)) dL_law_695 hcs) (fun r65 M64 H locs hR hS hF => ?_)
    refine lv_if_ne (tgt := 849) S.1 S.2.1 dL_law_698 (by decide) (fun hc66 => ?_) (fun hc66 => ?_)
    · replace hF := z_cf hF hc66
      exact jL_849 S hr hg hK hX hbl hbz hLL hcs _ _ ih _ _ _ _ _ hR hS _ (lv_sub hl [0, 1, 2, 3, 4, 5, 6, 7, 8, 9, 10, 11, 12] rfl) hF
    · replace hF := z_ct hF hc66
      refine lv_iconst (v := 0) S.1 S.2.1 dL_law_701 (by decide) ?_
      refine lv_istore (lv' := [(18, .int 0), (0, .ref b), (1, .ref (g.1 0 0)), (2, .ref (g.1 26 0)), (3, .ref (g.1 27 0)), (4, .ref (g.1 28 0)), (5, .ref (g.1 29 0)), (6, .ref (g.1 30 0)), (7, .ref (g.1 31 0)), (8, .ref (g.1 32 0)), (9, .ref (g.1 33 0)), (10, .ref (g.1 34 0)), (11, .int a11), (13, .int a13), (14, .int a14)]) S.1 S.2.1 dL_law_702 hl (by decide) rfl (fun ls hl => ?_)
      refine lL_704 S hr hg hK hX hbl hbz hLL hcs _ _ _ (fun M75 v76 H locs hR hS ls hl hF => ?_) _ _ _ _ _ hR hS _ (lv_sub hl [1, 2, 3, 4, 5, 6, 7, 8, 9, 10, 11, 12, 13, 0] rfl) hF
      refine lv_iconst (v := 0) S.1 S.2.1 dL_law_804 (by decide) ?_
      refine lv_istore (lv' := [(18, .int 0), (0, .ref b), (1, .ref (g.1 0 0)), (2, .ref (g.1 26 0)), (3, .ref (g.1 27 0)), (4, .ref (g.1 28 0)), (5, .ref (g.1 29 0)), (6, .ref (g.1 30 0)), (7, .ref (g.1 31 0)), (8, .ref (g.1 32 0)), (9, .ref (g.1 33 0)), (10, .ref (g.1 34 0)), (11, .int a11), (13, .int a13)]) S.1 S.2.1 dL_law_805 hl (by decide) rfl (fun ls hl => ?_)
      refine lL_807 S hr hg hK hX hbl hbz hLL hcs _ _ _ (fun M81 v82 H locs hR hS ls hl hF => ?_) _ _ _ _ _ hR hS _ (lv_sub hl [1, 2, 3, 4, 5, 6, 7, 8, 9, 10, 11, 12, 13, 0] rfl) hF
      refine lv_aload_n S.1 S.2.1 dL_law_832 rfl (lv_at hl 1 rfl) ?_
      refine z_goi hS hF (fun _ _ ho => va_runV (C := RX6) (n := 0) (As := []) (rest := []) S (kX6_round l hg ho) (cwV 0 S.2.2.2.2 (zgV wm_L_84 oX6_round) rfl rfl rfl hX6_round ⟨Nat.le_of_ble_eq_true rfl, Nat.le_of_ble_eq_true rfl⟩) ⟨zPc_blind, z_recv hK hR (by decide) rfl rfl, z_pre hK hR⟩ rfl rfl hl.1 rfl (lv_room (Nat.le_of_ble_eq_true rfl)) dL_law_833 hcs) (fun r84 M83 H locs hR hS hF => ?_)
      refine lv_aload_n S.1 S.2.1 dL_law_836 rfl (lv_at hl 2 rfl) ?_
      refine lv_iconst (v := 1) S.1 S.2.1 dL_law_837 (by decide) ?_
      refine lv_dup2_11 S.1 S.2.1 dL_law_838 rfl rfl ?_
      refine z_iald (k := 26) (i := 0) (n := 4) S hK hR hF (by decide) rfl dL_law_839 (fun hF => ?_)
      refine lv_iconst (v := 1) S.1 S.2.1 dL_law_840 (by decide) ?_
      refine lv_iadd S.1 S.2.1 dL_law_841 ?_
      refine lv_dup_x2 S.1 S.2.1 dL_law_842 rfl rfl rfl ?_
      refine z_iast (k := 26) (i := 0) (n := 4) S hg hK hR hS hF (by decide) rfl dL_law_843 (fun H locs M85 hR hS hF => ?_)
      refine lv_icmp_eq (tgt := 911) S.1 S.2.1 dL_law_844 (by decide) (fun hc86 => ?_) (fun hc86 => ?_)
      · replace hF := z_ct hF hc86
        exact jL_911 S hr hg hK hX hbl hbz hLL hcs _ _ ih _ _ _ _ _ hR hS _ (lv_sub hl [0, 1, 2, 3, 4, 5, 6, 7, 8, 9, 10, 11, 12] rfl) hF
      · replace hF := z_cf hF hc86
        refine lv_iconst (v := 0) S.1 S.2.1 dL_law_847 (by decide) ?_
        exact (z_no hF).elim
set_option maxRecDepth 100000 in
set_option maxHeartbeats 8000000 in
theorem lL_589 (S : CallFix p m c code 21 s #[Value.ref b] zT RL) (hr : meth.sig.returnType = ret) (hg : zAd g z) (hK : zK g s) (hX : va_X b L xs s s.heap) (hbl : b < s.heap.size) (hbz : b < z) (hLL : L ≤ 260) (hcs : cells ≤ room_1.cells ∧ slots ≤ room_1.slots) {M' : zM} : ∀ (k : zM → Int32 → Int32 → Option (Int32 × zM)) (a11 : Int32) (a13 : Int32) (a15 : Int32) (a16 : Int32) (a17 : Int32), (∀ (M : zM) (a18 : Int32) (a19 : Int32) (H : Heap) (locs : List Loc), zR g M H → va_S (zS z) s.heap H locs → ∀ ls : Array Slot, lv_has ls 21 [(0, .ref b), (1, .ref (g.1 0 0)), (2, .ref (g.1 26 0)), (3, .ref (g.1 27 0)), (4, .ref (g.1 28 0)), (5, .ref (g.1 29 0)), (6, .ref (g.1 30 0)), (7, .ref (g.1 31 0)), (8, .ref (g.1 32 0)), (9, .ref (g.1 33 0)), (10, .ref (g.1 34 0)), (11, .int a11), (13, .int a13), (15, .int a15), (16, .int a16), (17, .int a17), (18, .int a18), (19, .int a19)] → k M a18 a19 = some (1, M') → W p l e room_1 s m #[Value.ref b] below meth c H locs cells slots (lw_Z below #[Value.ref b] s) (F0 m 636 ls [])) → ∀ (n : Nat) (M : zM) (a18 : Int32) (a19 : Int32) (H : Heap) (locs : List Loc), zR g M H → va_S (zS z) s.heap H locs → ∀ ls : Array Slot, lv_has ls 21 [(0, .ref b), (1, .ref (g.1 0 0)), (2, .ref (g.1 26 0)), (3, .ref (g.1 27 0)), (4, .ref (g.1 28 0)), (5, .ref (g.1 29 0)), (6, .ref (g.1 30 0)), (7, .ref (g.1 31 0)), (8, .ref (g.1 32 0)), (9, .ref (g.1 33 0)), (10, .ref (g.1 34 0)), (11, .int a11), (13, .int a13), (15, .int a15), (16, .int a16), (17, .int a17), (18, .int a18), (19, .int a19)] → fL_law_L589 k xs L a11 a13 a15 a16 a17 n M a18 a19 = some (1, M') → W p l e room_1 s m #[Value.ref b] below meth c H locs cells slots (lw_Z below #[Value.ref b] s) (F0 m 589 ls []) := by
    intro k a11 a13 a15 a16 a17 hk n
    induction n with
    | zero =>
      intro M a18 a19 H locs hR hS ls hl hF
      cases hF
    | succ n ih =>
      intro M a18 a19 H locs hR hS ls hl hF
      unfold fL_law_L589 at hF
      refine lv_iload S.1 S.2.1 dL_law_589 (lv_at hl 17 rfl) ?_
      refine lv_bipush (v := 32) S.1 S.2.1 dL_law_591 (by decide) ?_
      refine lv_icmp_ge (tgt := 636) S.1 S.2.1 dL_law_593 (by decide) (fun hc90 => ?_) (fun hc90 => ?_)
      · replace hF := z_ct hF hc90
        exact hk _ _ _ _ _ hR hS _ (lv_sub hl [0, 1, 2, 3, 4, 5, 6, 7, 8, 9, 10, 11, 12, 13, 14, 15, 16, 17] rfl) hF
      · replace hF := z_cf hF hc90
        refine lv_iload S.1 S.2.1 dL_law_596 (lv_at hl 13 rfl) ?_
        refine lv_iload S.1 S.2.1 dL_law_598 (lv_at hl 17 rfl) ?_
        refine lv_aload S.1 S.2.1 dL_law_600 (lv_at hl 4 rfl) ?_
        refine lv_aload S.1 S.2.1 dL_law_602 (lv_at hl 5 rfl) ?_
        refine z_goi hS hF (fun _ _ ho => va_runS (n := 4) (As := [.int a15, .int a19, .ref (g.1 28 0), .ref (g.1 29 0)]) (rest := []) S (kL_worn l hg (by decide) rfl (by decide) rfl ho) (va_cwS 4 S.2.2.2.2 (zgS wm_L_27 oL_worn) rfl rfl rfl hL_worn.2 ⟨Nat.le_of_ble_eq_true rfl, Nat.le_of_ble_eq_true rfl⟩) ⟨zPc_blind, z_pre hK hR⟩ rfl rfl hl.1 rfl (lv_room (Nat.le_of_ble_eq_true rfl)) dL_law_604 hcs) (fun r92 M91 H locs hR hS hF => ?_)
        refine lv_iload S.1 S.2.1 dL_law_607 (lv_at hl 16 rfl) ?_
        refine lv_icmp_le (tgt := 626) S.1 S.2.1 dL_law_609 (by decide) (fun hc93 => ?_) (fun hc93 => ?_)
        · replace hF := z_ct hF hc93
          refine lv_iload S.1 S.2.1 dL_law_626 (lv_at hl 16 rfl) ?_
          refine lv_istore (lv' := [(18, .int a18), (0, .ref b), (1, .ref (g.1 0 0)), (2, .ref (g.1 26 0)), (3, .ref (g.1 27 0)), (4, .ref (g.1 28 0)), (5, .ref (g.1 29 0)), (6, .ref (g.1 30 0)), (7, .ref (g.1 31 0)), (8, .ref (g.1 32 0)), (9, .ref (g.1 33 0)), (10, .ref (g.1 34 0)), (11, .int a11), (13, .int a13), (15, .int a15), (16, .int a16), (17, .int a17), (19, .int a19)]) S.1 S.2.1 dL_law_628 hl (by decide) rfl (fun ls hl => ?_)
          obtain ⟨v94, ev94, hF⟩ := zL_out hF
          refine lv_iinc (v := v94) (lv' := [(19, .int v94), (18, .int a18), (0, .ref b), (1, .ref (g.1 0 0)), (2, .ref (g.1 26 0)), (3, .ref (g.1 27 0)), (4, .ref (g.1 28 0)), (5, .ref (g.1 29 0)), (6, .ref (g.1 30 0)), (7, .ref (g.1 31 0)), (8, .ref (g.1 32 0)), (9, .ref (g.1 33 0)), (10, .ref (g.1 34 0)), (11, .int a11), (13, .int a13), (15, .int a15), (16, .int a16), (17, .int a17)]) S.1 S.2.1 dL_law_630 hl (k := 17) rfl (by rw [← ev94]; rfl) (by decide) rfl (fun ls hl => ?_)
          refine lv_goto (tgt := 589) S.1 S.2.1 dL_law_633 (by decide) ?_
          exact ih _ _ _ _ _ hR hS _ (lv_sub hl [2, 3, 4, 5, 6, 7, 8, 9, 10, 11, 12, 13, 14, 15, 16, 17, 1, 0] rfl) hF
        · replace hF := z_cf hF hc93
          refine lv_iload S.1 S.2.1 dL_law_612 (lv_at hl 13 rfl) ?_
          refine lv_iload S.1 S.2.1 dL_law_614 (lv_at hl 17 rfl) ?_
          refine lv_aload S.1 S.2.1 dL_law_616 (lv_at hl 4 rfl) ?_
          refine lv_aload S.1 S.2.1 dL_law_618 (lv_at hl 5 rfl) ?_
          refine z_goi hS hF (fun _ _ ho => va_runS (n := 4) (As := [.int a15, .int a19, .ref (g.1 28 0), .ref (g.1 29 0)]) (rest := []) S (kL_worn l hg (by decide) rfl (by decide) rfl ho) (va_cwS 4 S.2.2.2.2 (zgS wm_L_27 oL_worn) rfl rfl rfl hL_worn.2 ⟨Nat.le_of_ble_eq_true rfl, Nat.le_of_ble_eq_true rfl⟩) ⟨zPc_blind, z_pre hK hR⟩ rfl rfl hl.1 rfl (lv_room (Nat.le_of_ble_eq_true rfl)) dL_law_620 hcs) (fun r96 M95 H locs hR hS hF => ?_)
          refine lv_goto (tgt := 628) S.1 S.2.1 dL_law_623 (by decide) ?_
          refine lv_istore (lv' := [(18, .int r96), (0, .ref b), (1, .ref (g.1 0 0)), (2, .ref (g.1 26 0)), (3, .ref (g.1 27 0)), (4, .ref (g.1 28 0)), (5, .ref (g.1 29 0)), (6, .ref (g.1 30 0)), (7, .ref (g.1 31 0)), (8, .ref (g.1 32 0)), (9, .ref (g.1 33 0)), (10, .ref (g.1 34 0)), (11, .int a11), (13, .int a13), (15, .int a15), (16, .int a16), (17, .int a17), (19, .int a19)]) S.1 S.2.1 dL_law_628 hl (by decide) rfl (fun ls hl => ?_)
          obtain ⟨v97, ev97, hF⟩ := zL_out hF
          refine lv_iinc (v := v97) (lv' := [(19, .int v97), (18, .int r96), (0, .ref b), (1, .ref (g.1 0 0)), (2, .ref (g.1 26 0)), (3, .ref (g.1 27 0)), (4, .ref (g.1 28 0)), (5, .ref (g.1 29 0)), (6, .ref (g.1 30 0)), (7, .ref (g.1 31 0)), (8, .ref (g.1 32 0)), (9, .ref (g.1 33 0)), (10, .ref (g.1 34 0)), (11, .int a11), (13, .int a13), (15, .int a15), (16, .int a16), (17, .int a17)]) S.1 S.2.1 dL_law_630 hl (k := 17) rfl (by rw [← ev97]; rfl) (by decide) rfl (fun ls hl => ?_)
          refine lv_goto (tgt := 589) S.1 S.2.1 dL_law_633 (by decide) ?_
          exact ih _ _ _ _ _ hR hS _ (lv_sub hl [2, 3, 4, 5, 6, 7, 8, 9, 10, 11, 12, 13, 14, 15, 16, 17, 1, 0] rfl) hF
set_option maxRecDepth 100000 in
set_option maxHeartbeats 8000000 in
theorem jL_505 (S : CallFix p m c code 21 s #[Value.ref b] zT RL) (hr : meth.sig.returnType = ret) (hg : zAd g z) (hK : zK g s) (hX : va_X b L xs s s.heap) (hbl : b < s.heap.size) (hbz : b < z) (hLL : L ≤ 260) (hcs : cells ≤ room_1.cells ∧ slots ≤ room_1.slots) {M' : zM} (rec k : zM → Int32 → Option (Int32 × zM)) (ih : ∀ (M : zM) (a11 : Int32) (H : Heap) (locs : List Loc), zR g M H → va_S (zS z) s.heap H locs → ∀ ls : Array Slot, lv_has ls 21 [(0, .ref b), (1, .ref (g.1 0 0)), (2, .ref (g.1 26 0)), (3, .ref (g.1 27 0)), (4, .ref (g.1 28 0)), (5, .ref (g.1 29 0)), (6, .ref (g.1 30 0)), (7, .ref (g.1 31 0)), (8, .ref (g.1 32 0)), (9, .ref (g.1 33 0)), (10, .ref (g.1 34 0)), (11, .int a11)] → rec M a11 = some (1, M') → W p l e room_1 s m #[Value.ref b] below meth c H locs cells slots (lw_Z below #[Value.ref b] s) (F0 m 61 ls [])) (M : zM) (a11 : Int32) (a13 : Int32) (a14 : Int32) (a15 : Int32) (a16 : Int32) (a17 : Int32) (H : Heap) (locs : List Loc) (hR : zR g M H) (hS : va_S (zS z) s.heap H locs) (ls : Array Slot) (hl : lv_has ls 21 [(0, .ref b), (1, .ref (g.1 0 0)), (2, .ref (g.1 26 0)), (3, .ref (g.1 27 0)), (4, .ref (g.1 28 0)), (5, .ref (g.1 29 0)), (6, .ref (g.1 30 0)), (7, .ref (g.1 31 0)), (8, .ref (g.1 32 0)), (9, .ref (g.1 33 0)), (10, .ref (g.1 34 0)), (11, .int a11), (13, .int a13), (14, .int a14), (15, .int a15), (16, .int a16), (17, .int a17)]) (hF : fL_law_J505 rec k xs L M a11 a13 a14 a15 a16 a17 = some (1, M')) : W p l e room_1 s m #[Value.ref b] below meth c H locs cells slots (lw_Z below #[Value.ref b] s) (F0 m 505 ls []) := by
  unfold fL_law_J505 at hF
  refine lv_iload S.1 S.2.1 dL_law_505 (lv_at hl 13 rfl) ?_
  refine lv_iconst (v := 4) S.1 S.2.1 dL_law_507 (by decide) ?_
  refine lv_icmp_ne (tgt := 568) S.1 S.2.1 dL_law_508 (by decide) (fun hc36 => ?_) (fun hc36 => ?_)
  · replace hF := z_cf hF hc36
    refine lv_iload S.1 S.2.1 dL_law_568 (lv_at hl 13 rfl) ?_
    refine lv_iconst (v := 5) S.1 S.2.1 dL_law_570 (by decide) ?_
    refine lv_icmp_ne (tgt := 685) S.1 S.2.1 dL_law_571 (by decide) (fun hc37 => ?_) (fun hc37 => ?_)
    · replace hF := z_cf hF hc37
      exact jL_685 S hr hg hK hX hbl hbz hLL hcs _ _ ih _ _ _ _ _ _ hR hS _ (lv_sub hl [0, 1, 2, 3, 4, 5, 6, 7, 8, 9, 10, 11, 12, 13] rfl) hF
    · replace hF := z_ct hF hc37
      refine lv_iload S.1 S.2.1 dL_law_574 (lv_at hl 12 rfl) ?_
      refine lv_iconst (v := 3) S.1 S.2.1 dL_law_576 (by decide) ?_
      refine z_goi hS hF (fun _ _ ho => va_runS (n := 2) (As := [.int a13, .int 3]) (rest := []) S (kL_low l hg ho) (va_cwS 2 S.2.2.2.2 (zgS wm_L_50 oL_low) rfl rfl rfl hL_low.2 ⟨Nat.le_of_ble_eq_true rfl, Nat.le_of_ble_eq_true rfl⟩) ⟨zPc_blind, z_pre hK hR⟩ rfl rfl hl.1 rfl (lv_room (Nat.le_of_ble_eq_true rfl)) dL_law_577 hcs) (fun r88 M87 H locs hR hS hF => ?_)
      refine lv_if_ne (tgt := 685) S.1 S.2.1 dL_law_580 (by decide) (fun hc89 => ?_) (fun hc89 => ?_)
      · replace hF := z_cf hF hc89
        exact jL_685 S hr hg hK hX hbl hbz hLL hcs _ _ ih _ _ _ _ _ _ hR hS _ (lv_sub hl [0, 1, 2, 3, 4, 5, 6, 7, 8, 9, 10, 11, 12, 13] rfl) hF
      · replace hF := z_ct hF hc89
        refine lv_iconst (v := 0) S.1 S.2.1 dL_law_583 (by decide) ?_
        refine lv_istore (lv' := [(18, .int 0), (0, .ref b), (1, .ref (g.1 0 0)), (2, .ref (g.1 26 0)), (3, .ref (g.1 27 0)), (4, .ref (g.1 28 0)), (5, .ref (g.1 29 0)), (6, .ref (g.1 30 0)), (7, .ref (g.1 31 0)), (8, .ref (g.1 32 0)), (9, .ref (g.1 33 0)), (10, .ref (g.1 34 0)), (11, .int a11), (13, .int a13), (14, .int a14), (15, .int a15), (16, .int a16), (17, .int a17)]) S.1 S.2.1 dL_law_584 hl (by decide) rfl (fun ls hl => ?_)
        refine lv_iconst (v := 0) S.1 S.2.1 dL_law_586 (by decide) ?_
        refine lv_istore (lv' := [(19, .int 0), (18, .int 0), (0, .ref b), (1, .ref (g.1 0 0)), (2, .ref (g.1 26 0)), (3, .ref (g.1 27 0)), (4, .ref (g.1 28 0)), (5, .ref (g.1 29 0)), (6, .ref (g.1 30 0)), (7, .ref (g.1 31 0)), (8, .ref (g.1 32 0)), (9, .ref (g.1 33 0)), (10, .ref (g.1 34 0)), (11, .int a11), (13, .int a13), (14, .int a14), (15, .int a15), (16, .int a16), (17, .int a17)]) S.1 S.2.1 dL_law_587 hl (by decide) rfl (fun ls hl => ?_)
        refine lL_589 S hr hg hK hX hbl hbz hLL hcs _ _ _ _ _ _ (fun M98 v99 v100 H locs hR hS ls hl hF => ?_) _ _ _ _ _ _ hR hS _ (lv_sub hl [2, 3, 4, 5, 6, 7, 8, 9, 10, 11, 12, 13, 14, 16, 17, 18, 1, 0] rfl) hF
        refine lv_aload_n S.1 S.2.1 dL_law_636 rfl (lv_at hl 1 rfl) ?_
        refine lv_iload S.1 S.2.1 dL_law_637 (lv_at hl 13 rfl) ?_
        refine z_goi hS hF (fun _ _ ho => va_runV (C := RX6) (n := 1) (As := [.int a15]) (rest := []) S (kX6_land l hg ho) (cwV 1 S.2.2.2.2 (zgV wm_L_81 oX6_land) rfl rfl rfl hX6_land ⟨Nat.le_of_ble_eq_true rfl, Nat.le_of_ble_eq_true rfl⟩) ⟨zPc_blind, z_recv hK hR (by decide) rfl rfl, z_pre hK hR⟩ rfl rfl hl.1 rfl (lv_room (Nat.le_of_ble_eq_true rfl)) dL_law_639 hcs) (fun r102 M101 H locs hR hS hF => ?_)
        refine lv_iload S.1 S.2.1 dL_law_642 (lv_at hl 15 rfl) ?_
        refine lv_if_eq (tgt := 652) S.1 S.2.1 dL_law_644 (by decide) (fun hc103 => ?_) (fun hc103 => ?_)
        · replace hF := z_ct hF hc103
          refine lv_bipush (v := (-5)) S.1 S.2.1 dL_law_652 (by decide) ?_
          refine lv_icmp_eq (tgt := 659) S.1 S.2.1 dL_law_654 (by decide) (fun hc104 => ?_) (fun hc104 => ?_)
          · replace hF := z_ct hF hc104
            refine lv_aload_n S.1 S.2.1 dL_law_659 rfl (lv_at hl 3 rfl) ?_
            refine lv_iload S.1 S.2.1 dL_law_660 (lv_at hl 14 rfl) ?_
            refine lv_bipush (v := 8) S.1 S.2.1 dL_law_662 (by decide) ?_
            refine lv_iadd S.1 S.2.1 dL_law_664 ?_
            refine lv_iload S.1 S.2.1 dL_law_665 (lv_at hl 15 rfl) ?_
            refine lv_if_eq (tgt := 674) S.1 S.2.1 dL_law_667 (by decide) (fun _ => ?_) (fun hc => absurd hc103 hc)
            refine lv_aload_n S.1 S.2.1 dL_law_674 rfl (lv_at hl 3 rfl) ?_
            refine lv_iload S.1 S.2.1 dL_law_675 (lv_at hl 14 rfl) ?_
            refine lv_bipush (v := 8) S.1 S.2.1 dL_law_677 (by decide) ?_
            refine lv_iadd S.1 S.2.1 dL_law_679 ?_
            refine z_iald (k := 27) (i := 0) (n := 48) S hK hR hF (by decide) rfl dL_law_680 (fun hF => ?_)
            refine z_iast (k := 27) (i := 0) (n := 48) S hg hK hR hS hF (by decide) rfl dL_law_681 (fun H locs M105 hR hS hF => ?_)
            refine lv_goto (tgt := 911) S.1 S.2.1 dL_law_682 (by decide) ?_
            exact jL_911 S hr hg hK hX hbl hbz hLL hcs _ _ ih _ _ _ _ _ hR hS _ (lv_sub hl [0, 1, 2, 3, 4, 5, 6, 7, 8, 9, 10, 11, 12] rfl) hF
          · replace hF := z_cf hF hc104
            refine lv_iconst (v := 0) S.1 S.2.1 dL_law_657 (by decide) ?_
            exact (z_no hF).elim
        · replace hF := z_cf hF hc103
          refine lv_iload S.1 S.2.1 dL_law_647 (lv_at hl 16 rfl) ?_
          refine lv_goto (tgt := 654) S.1 S.2.1 dL_law_649 (by decide) ?_
          refine lv_icmp_eq (tgt := 659) S.1 S.2.1 dL_law_654 (by decide) (fun hc106 => ?_) (fun hc106 => ?_)
          · replace hF := z_ct hF hc106
            refine lv_aload_n S.1 S.2.1 dL_law_659 rfl (lv_at hl 3 rfl) ?_
            refine lv_iload S.1 S.2.1 dL_law_660 (lv_at hl 14 rfl) ?_
            refine lv_bipush (v := 8) S.1 S.2.1 dL_law_662 (by decide) ?_
            refine lv_iadd S.1 S.2.1 dL_law_664 ?_
            refine lv_iload S.1 S.2.1 dL_law_665 (lv_at hl 15 rfl) ?_
            refine lv_if_eq (tgt := 674) S.1 S.2.1 dL_law_667 (by decide) (fun hc => absurd hc hc103) (fun _ => ?_)
            refine lv_iconst (v := 2) S.1 S.2.1 dL_law_670 (by decide) ?_
            refine lv_goto (tgt := 681) S.1 S.2.1 dL_law_671 (by decide) ?_
            refine z_iast (k := 27) (i := 0) (n := 48) S hg hK hR hS hF (by decide) rfl dL_law_681 (fun H locs M107 hR hS hF => ?_)
            refine lv_goto (tgt := 911) S.1 S.2.1 dL_law_682 (by decide) ?_
            exact jL_911 S hr hg hK hX hbl hbz hLL hcs _ _ ih _ _ _ _ _ hR hS _ (lv_sub hl [0, 1, 2, 3, 4, 5, 6, 7, 8, 9, 10, 11, 12] rfl) hF
          · replace hF := z_cf hF hc106
            refine lv_iconst (v := 0) S.1 S.2.1 dL_law_657 (by decide) ?_
            exact (z_no hF).elim
  · replace hF := z_ct hF hc36
    refine lv_iload S.1 S.2.1 dL_law_511 (lv_at hl 12 rfl) ?_
    refine lv_bipush (v := 64) S.1 S.2.1 dL_law_513 (by decide) ?_
    refine z_goi hS hF (fun _ _ ho => va_runS (n := 2) (As := [.int a13, .int 64]) (rest := []) S (kL_low l hg ho) (va_cwS 2 S.2.2.2.2 (zgS wm_L_50 oL_low) rfl rfl rfl hL_low.2 ⟨Nat.le_of_ble_eq_true rfl, Nat.le_of_ble_eq_true rfl⟩) ⟨zPc_blind, z_pre hK hR⟩ rfl rfl hl.1 rfl (lv_room (Nat.le_of_ble_eq_true rfl)) dL_law_515 hcs) (fun r109 M108 H locs hR hS hF => ?_)
    refine lv_istore (lv' := [(18, .int r109), (0, .ref b), (1, .ref (g.1 0 0)), (2, .ref (g.1 26 0)), (3, .ref (g.1 27 0)), (4, .ref (g.1 28 0)), (5, .ref (g.1 29 0)), (6, .ref (g.1 30 0)), (7, .ref (g.1 31 0)), (8, .ref (g.1 32 0)), (9, .ref (g.1 33 0)), (10, .ref (g.1 34 0)), (11, .int a11), (13, .int a13), (14, .int a14), (15, .int a15), (16, .int a16), (17, .int a17)]) S.1 S.2.1 dL_law_518 hl (by decide) rfl (fun ls hl => ?_)
    refine lv_aload_n S.1 S.2.1 dL_law_520 rfl (lv_at hl 2 rfl) ?_
    refine lv_iload S.1 S.2.1 dL_law_521 (lv_at hl 15 rfl) ?_
    refine lv_iload S.1 S.2.1 dL_law_523 (lv_at hl 0 rfl) ?_
    refine z_goi hS hF (fun _ _ ho => va_runV (C := RX6) (n := 2) (As := [.int a15, .int r109]) (rest := []) S (kX6_step l hg ho) (cwV 2 S.2.2.2.2 (zgV wm_L_78 oX6_step) rfl rfl rfl hX6_step ⟨Nat.le_of_ble_eq_true rfl, Nat.le_of_ble_eq_true rfl⟩) ⟨zPc_blind, z_recv hK hR (by decide) rfl rfl, z_pre hK hR⟩ rfl rfl hl.1 rfl (lv_room (Nat.le_of_ble_eq_true rfl)) dL_law_525 hcs) (fun r111 M110 H locs hR hS hF => ?_)
    refine lv_iload S.1 S.2.1 dL_law_528 (lv_at hl 17 rfl) ?_
    refine lv_if_eq (tgt := 540) S.1 S.2.1 dL_law_530 (by decide) (fun hc112 => ?_) (fun hc112 => ?_)
    · replace hF := z_ct hF hc112
      refine lv_bipush (v := (-5)) S.1 S.2.1 dL_law_540 (by decide) ?_
      refine lv_icmp_eq (tgt := 547) S.1 S.2.1 dL_law_542 (by decide) (fun hc113 => ?_) (fun hc113 => ?_)
      · replace hF := z_ct hF hc113
        refine lv_aload_n S.1 S.2.1 dL_law_547 rfl (lv_at hl 4 rfl) ?_
        refine lv_iload S.1 S.2.1 dL_law_548 (lv_at hl 16 rfl) ?_
        refine lv_iload S.1 S.2.1 dL_law_550 (lv_at hl 17 rfl) ?_
        refine lv_if_eq (tgt := 560) S.1 S.2.1 dL_law_552 (by decide) (fun _ => ?_) (fun hc => absurd hc112 hc)
        refine lv_aload_n S.1 S.2.1 dL_law_560 rfl (lv_at hl 4 rfl) ?_
        refine lv_iload S.1 S.2.1 dL_law_561 (lv_at hl 16 rfl) ?_
        refine z_iald (k := 27) (i := 0) (n := 48) S hK hR hF (by decide) rfl dL_law_563 (fun hF => ?_)
        refine z_iast (k := 27) (i := 0) (n := 48) S hg hK hR hS hF (by decide) rfl dL_law_564 (fun H locs M114 hR hS hF => ?_)
        refine lv_goto (tgt := 911) S.1 S.2.1 dL_law_565 (by decide) ?_
        exact jL_911 S hr hg hK hX hbl hbz hLL hcs _ _ ih _ _ _ _ _ hR hS _ (lv_sub hl [1, 2, 3, 4, 5, 6, 7, 8, 9, 10, 11, 12, 13] rfl) hF
      · replace hF := z_cf hF hc113
        refine lv_iconst (v := 0) S.1 S.2.1 dL_law_545 (by decide) ?_
        exact (z_no hF).elim
    · replace hF := z_cf hF hc112
      refine lv_aload_n S.1 S.2.1 dL_law_533 rfl (lv_at hl 4 rfl) ?_
      refine lv_iload S.1 S.2.1 dL_law_534 (lv_at hl 16 rfl) ?_
      refine z_iald (k := 27) (i := 0) (n := 48) S hK hR hF (by decide) rfl dL_law_536 (fun hF => ?_)
      refine lv_goto (tgt := 542) S.1 S.2.1 dL_law_537 (by decide) ?_
      refine lv_icmp_eq (tgt := 547) S.1 S.2.1 dL_law_542 (by decide) (fun hc115 => ?_) (fun hc115 => ?_)
      · replace hF := z_ct hF hc115
        refine lv_aload_n S.1 S.2.1 dL_law_547 rfl (lv_at hl 4 rfl) ?_
        refine lv_iload S.1 S.2.1 dL_law_548 (lv_at hl 16 rfl) ?_
        refine lv_iload S.1 S.2.1 dL_law_550 (lv_at hl 17 rfl) ?_
        refine lv_if_eq (tgt := 560) S.1 S.2.1 dL_law_552 (by decide) (fun hc => absurd hc hc112) (fun _ => ?_)
        refine lv_iload S.1 S.2.1 dL_law_555 (lv_at hl 0 rfl) ?_
        refine lv_goto (tgt := 564) S.1 S.2.1 dL_law_557 (by decide) ?_
        refine z_iast (k := 27) (i := 0) (n := 48) S hg hK hR hS hF (by decide) rfl dL_law_564 (fun H locs M116 hR hS hF => ?_)
        refine lv_goto (tgt := 911) S.1 S.2.1 dL_law_565 (by decide) ?_
        exact jL_911 S hr hg hK hX hbl hbz hLL hcs _ _ ih _ _ _ _ _ hR hS _ (lv_sub hl [1, 2, 3, 4, 5, 6, 7, 8, 9, 10, 11, 12, 13] rfl) hF
      · replace hF := z_cf hF hc115
        refine lv_iconst (v := 0) S.1 S.2.1 dL_law_545 (by decide) ?_
        exact (z_no hF).elim
set_option maxRecDepth 100000 in
set_option maxHeartbeats 8000000 in
theorem jL_394 (S : CallFix p m c code 21 s #[Value.ref b] zT RL) (hr : meth.sig.returnType = ret) (hg : zAd g z) (hK : zK g s) (hX : va_X b L xs s s.heap) (hbl : b < s.heap.size) (hbz : b < z) (hLL : L ≤ 260) (hcs : cells ≤ room_1.cells ∧ slots ≤ room_1.slots) {M' : zM} (rec k : zM → Int32 → Option (Int32 × zM)) (ih : ∀ (M : zM) (a11 : Int32) (H : Heap) (locs : List Loc), zR g M H → va_S (zS z) s.heap H locs → ∀ ls : Array Slot, lv_has ls 21 [(0, .ref b), (1, .ref (g.1 0 0)), (2, .ref (g.1 26 0)), (3, .ref (g.1 27 0)), (4, .ref (g.1 28 0)), (5, .ref (g.1 29 0)), (6, .ref (g.1 30 0)), (7, .ref (g.1 31 0)), (8, .ref (g.1 32 0)), (9, .ref (g.1 33 0)), (10, .ref (g.1 34 0)), (11, .int a11)] → rec M a11 = some (1, M') → W p l e room_1 s m #[Value.ref b] below meth c H locs cells slots (lw_Z below #[Value.ref b] s) (F0 m 61 ls [])) (M : zM) (a11 : Int32) (a13 : Int32) (a14 : Int32) (a15 : Int32) (a16 : Int32) (a17 : Int32) (H : Heap) (locs : List Loc) (hR : zR g M H) (hS : va_S (zS z) s.heap H locs) (ls : Array Slot) (hl : lv_has ls 21 [(0, .ref b), (1, .ref (g.1 0 0)), (2, .ref (g.1 26 0)), (3, .ref (g.1 27 0)), (4, .ref (g.1 28 0)), (5, .ref (g.1 29 0)), (6, .ref (g.1 30 0)), (7, .ref (g.1 31 0)), (8, .ref (g.1 32 0)), (9, .ref (g.1 33 0)), (10, .ref (g.1 34 0)), (11, .int a11), (13, .int a13), (14, .int a14), (15, .int a15), (16, .int a16), (17, .int a17)]) (hF : fL_law_J394 rec k xs L M a11 a13 a14 a15 a16 a17 = some (1, M')) : W p l e room_1 s m #[Value.ref b] below meth c H locs cells slots (lw_Z below #[Value.ref b] s) (F0 m 394 ls []) := by
  unfold fL_law_J394 at hF
  refine lv_iload S.1 S.2.1 dL_law_394 (lv_at hl 13 rfl) ?_
  refine lv_iconst (v := 4) S.1 S.2.1 dL_law_396 (by decide) ?_
  refine lv_icmp_ge (tgt := 505) S.1 S.2.1 dL_law_397 (by decide) (fun hc35 => ?_) (fun hc35 => ?_)
  · replace hF := z_ct hF hc35
    exact jL_505 S hr hg hK hX hbl hbz hLL hcs _ _ ih _ _ _ _ _ _ _ _ _ hR hS _ (lv_sub hl [0, 1, 2, 3, 4, 5, 6, 7, 8, 9, 10, 11, 12, 13, 14, 15, 16] rfl) hF
  · replace hF := z_cf hF hc35
    refine lv_iload S.1 S.2.1 dL_law_400 (lv_at hl 12 rfl) ?_
    refine lv_bipush (v := 7) S.1 S.2.1 dL_law_402 (by decide) ?_
    refine z_goi hS hF (fun _ _ ho => va_runS (n := 2) (As := [.int a13, .int 7]) (rest := []) S (kL_low l hg ho) (va_cwS 2 S.2.2.2.2 (zgS wm_L_50 oL_low) rfl rfl rfl hL_low.2 ⟨Nat.le_of_ble_eq_true rfl, Nat.le_of_ble_eq_true rfl⟩) ⟨zPc_blind, z_pre hK hR⟩ rfl rfl hl.1 rfl (lv_room (Nat.le_of_ble_eq_true rfl)) dL_law_404 hcs) (fun r118 M117 H locs hR hS hF => ?_)
    refine lv_iconst (v := 3) S.1 S.2.1 dL_law_407 (by decide) ?_
    refine lv_isub S.1 S.2.1 dL_law_408 ?_
    refine z_nm hF (fun v119 hF => ?_)
    refine lv_istore (lv' := [(18, .int v119), (0, .ref b), (1, .ref (g.1 0 0)), (2, .ref (g.1 26 0)), (3, .ref (g.1 27 0)), (4, .ref (g.1 28 0)), (5, .ref (g.1 29 0)), (6, .ref (g.1 30 0)), (7, .ref (g.1 31 0)), (8, .ref (g.1 32 0)), (9, .ref (g.1 33 0)), (10, .ref (g.1 34 0)), (11, .int a11), (13, .int a13), (14, .int a14), (15, .int a15), (16, .int a16), (17, .int a17)]) S.1 S.2.1 dL_law_409 hl (by decide) rfl (fun ls hl => ?_)
    refine lv_iload S.1 S.2.1 dL_law_411 (lv_at hl 13 rfl) ?_
    refine lv_iconst (v := 4) S.1 S.2.1 dL_law_413 (by decide) ?_
    refine lv_ishr S.1 S.2.1 dL_law_414 ?_
    refine lv_bipush (v := 7) S.1 S.2.1 dL_law_415 (by decide) ?_
    refine z_goi hS hF (fun _ _ ho => va_runS (n := 2) (As := [.int (a13 >>> (4 &&& 31)), .int 7]) (rest := []) S (kL_low l hg ho) (va_cwS 2 S.2.2.2.2 (zgS wm_L_50 oL_low) rfl rfl rfl hL_low.2 ⟨Nat.le_of_ble_eq_true rfl, Nat.le_of_ble_eq_true rfl⟩) ⟨zPc_blind, z_pre hK hR⟩ rfl rfl hl.1 rfl (lv_room (Nat.le_of_ble_eq_true rfl)) dL_law_417 hcs) (fun r121 M120 H locs hR hS hF => ?_)
    refine lv_iconst (v := 3) S.1 S.2.1 dL_law_420 (by decide) ?_
    refine lv_isub S.1 S.2.1 dL_law_421 ?_
    refine z_nm hF (fun v122 hF => ?_)
    refine lv_istore (lv' := [(19, .int v122), (18, .int v119), (0, .ref b), (1, .ref (g.1 0 0)), (2, .ref (g.1 26 0)), (3, .ref (g.1 27 0)), (4, .ref (g.1 28 0)), (5, .ref (g.1 29 0)), (6, .ref (g.1 30 0)), (7, .ref (g.1 31 0)), (8, .ref (g.1 32 0)), (9, .ref (g.1 33 0)), (10, .ref (g.1 34 0)), (11, .int a11), (13, .int a13), (14, .int a14), (15, .int a15), (16, .int a16), (17, .int a17)]) S.1 S.2.1 dL_law_422 hl (by decide) rfl (fun ls hl => ?_)
    refine lv_bipush (v := 10) S.1 S.2.1 dL_law_424 (by decide) ?_
    refine lv_aload_n S.1 S.2.1 dL_law_426 rfl (lv_at hl 5 rfl) ?_
    refine lv_iload S.1 S.2.1 dL_law_427 (lv_at hl 17 rfl) ?_
    refine lv_iconst (v := 3) S.1 S.2.1 dL_law_429 (by decide) ?_
    refine lv_iadd S.1 S.2.1 dL_law_430 ?_
    refine z_iald (k := 27) (i := 0) (n := 48) S hK hR hF (by decide) rfl dL_law_431 (fun hF => ?_)
    refine lv_iload S.1 S.2.1 dL_law_432 (lv_at hl 1 rfl) ?_
    refine lv_isub S.1 S.2.1 dL_law_434 ?_
    refine z_goi hS hF (fun _ _ ho => va_runS (n := 1) (As := [.int ((M120 27 0 (zN (a16 + 3))) - v119)]) (rest := [.int 10]) S (kL_abs l hg ho) (va_cwS 1 S.2.2.2.2 (zgS wm_L_10 oL_abs) rfl rfl rfl hL_abs.2 ⟨Nat.le_of_ble_eq_true rfl, Nat.le_of_ble_eq_true rfl⟩) ⟨zPc_blind, z_pre hK hR⟩ rfl rfl hl.1 rfl (lv_room (Nat.le_of_ble_eq_true rfl)) dL_law_435 hcs) (fun r124 M123 H locs hR hS hF => ?_)
    refine lv_imul S.1 S.2.1 dL_law_438 ?_
    refine lv_aload_n S.1 S.2.1 dL_law_439 rfl (lv_at hl 5 rfl) ?_
    refine lv_iload S.1 S.2.1 dL_law_440 (lv_at hl 17 rfl) ?_
    refine lv_iconst (v := 4) S.1 S.2.1 dL_law_442 (by decide) ?_
    refine lv_iadd S.1 S.2.1 dL_law_443 ?_
    refine z_iald (k := 27) (i := 0) (n := 48) S hK hR hF (by decide) rfl dL_law_444 (fun hF => ?_)
    refine lv_iload S.1 S.2.1 dL_law_445 (lv_at hl 0 rfl) ?_
    refine lv_isub S.1 S.2.1 dL_law_447 ?_
    refine z_goi hS hF (fun _ _ ho => va_runS (n := 1) (As := [.int ((M123 27 0 (zN (a16 + 4))) - v122)]) (rest := [.int (10 * r124)]) S (kL_abs l hg ho) (va_cwS 1 S.2.2.2.2 (zgS wm_L_10 oL_abs) rfl rfl rfl hL_abs.2 ⟨Nat.le_of_ble_eq_true rfl, Nat.le_of_ble_eq_true rfl⟩) ⟨zPc_blind, z_pre hK hR⟩ rfl rfl hl.1 rfl (lv_room (Nat.le_of_ble_eq_true rfl)) dL_law_448 hcs) (fun r126 M125 H locs hR hS hF => ?_)
    refine lv_iadd S.1 S.2.1 dL_law_451 ?_
    refine z_nm hF (fun v127 hF => ?_)
    refine lv_istore (lv' := [(20, .int v127), (19, .int v122), (18, .int v119), (0, .ref b), (1, .ref (g.1 0 0)), (2, .ref (g.1 26 0)), (3, .ref (g.1 27 0)), (4, .ref (g.1 28 0)), (5, .ref (g.1 29 0)), (6, .ref (g.1 30 0)), (7, .ref (g.1 31 0)), (8, .ref (g.1 32 0)), (9, .ref (g.1 33 0)), (10, .ref (g.1 34 0)), (11, .int a11), (13, .int a13), (14, .int a14), (15, .int a15), (16, .int a16), (17, .int a17)]) S.1 S.2.1 dL_law_452 hl (by decide) rfl (fun ls hl => ?_)
    refine lv_aload_n S.1 S.2.1 dL_law_454 rfl (lv_at hl 4 rfl) ?_
    refine lv_iload S.1 S.2.1 dL_law_455 (lv_at hl 17 rfl) ?_
    refine lv_iload S.1 S.2.1 dL_law_457 (lv_at hl 2 rfl) ?_
    refine lv_iload S.1 S.2.1 dL_law_459 (lv_at hl 1 rfl) ?_
    refine z_goi hS hF (fun _ _ ho => va_runV (C := RX6) (n := 3) (As := [.int a15, .int v119, .int v122]) (rest := []) S (kX6_order l hg ho) (cwV 3 S.2.2.2.2 (zgV wm_L_75 oX6_order) rfl rfl rfl hX6_order ⟨Nat.le_of_ble_eq_true rfl, Nat.le_of_ble_eq_true rfl⟩) ⟨zPc_blind, z_recv hK hR (by decide) rfl rfl, z_pre hK hR⟩ rfl rfl hl.1 rfl (lv_room (Nat.le_of_ble_eq_true rfl)) dL_law_461 hcs) (fun r129 M128 H locs hR hS hF => ?_)
    refine lv_iload S.1 S.2.1 dL_law_464 (lv_at hl 19 rfl) ?_
    refine lv_if_eq (tgt := 474) S.1 S.2.1 dL_law_466 (by decide) (fun hc130 => ?_) (fun hc130 => ?_)
    · replace hF := z_ct hF hc130
      refine lv_bipush (v := (-5)) S.1 S.2.1 dL_law_474 (by decide) ?_
      refine lv_icmp_eq (tgt := 481) S.1 S.2.1 dL_law_476 (by decide) (fun hc131 => ?_) (fun hc131 => ?_)
      · replace hF := z_ct hF hc131
        refine lv_iload S.1 S.2.1 dL_law_481 (lv_at hl 19 rfl) ?_
        refine lv_if_eq (tgt := 502) S.1 S.2.1 dL_law_483 (by decide) (fun _ => ?_) (fun hc => absurd hc130 hc)
        refine lv_goto (tgt := 911) S.1 S.2.1 dL_law_502 (by decide) ?_
        exact jL_911 S hr hg hK hX hbl hbz hLL hcs _ _ ih _ _ _ _ _ hR hS _ (lv_sub hl [3, 4, 5, 6, 7, 8, 9, 10, 11, 12, 13, 14, 15] rfl) hF
      · replace hF := z_cf hF hc131
        refine lv_iconst (v := 0) S.1 S.2.1 dL_law_479 (by decide) ?_
        exact (z_no hF).elim
    · replace hF := z_cf hF hc130
      refine lv_iload S.1 S.2.1 dL_law_469 (lv_at hl 0 rfl) ?_
      refine lv_goto (tgt := 476) S.1 S.2.1 dL_law_471 (by decide) ?_
      refine lv_icmp_eq (tgt := 481) S.1 S.2.1 dL_law_476 (by decide) (fun hc132 => ?_) (fun hc132 => ?_)
      · replace hF := z_ct hF hc132
        refine lv_iload S.1 S.2.1 dL_law_481 (lv_at hl 19 rfl) ?_
        refine lv_if_eq (tgt := 502) S.1 S.2.1 dL_law_483 (by decide) (fun hc => absurd hc hc130) (fun _ => ?_)
        refine lv_aload_n S.1 S.2.1 dL_law_486 rfl (lv_at hl 6 rfl) ?_
        refine lv_iload S.1 S.2.1 dL_law_487 (lv_at hl 18 rfl) ?_
        refine lv_iconst (v := 3) S.1 S.2.1 dL_law_489 (by decide) ?_
        refine lv_iadd S.1 S.2.1 dL_law_490 ?_
        refine lv_iload S.1 S.2.1 dL_law_491 (lv_at hl 2 rfl) ?_
        refine z_iast (k := 27) (i := 0) (n := 48) S hg hK hR hS hF (by decide) rfl dL_law_493 (fun H locs M133 hR hS hF => ?_)
        refine lv_aload_n S.1 S.2.1 dL_law_494 rfl (lv_at hl 6 rfl) ?_
        refine lv_iload S.1 S.2.1 dL_law_495 (lv_at hl 18 rfl) ?_
        refine lv_iconst (v := 4) S.1 S.2.1 dL_law_497 (by decide) ?_
        refine lv_iadd S.1 S.2.1 dL_law_498 ?_
        refine lv_iload S.1 S.2.1 dL_law_499 (lv_at hl 1 rfl) ?_
        refine z_iast (k := 27) (i := 0) (n := 48) S hg hK hR hS hF (by decide) rfl dL_law_501 (fun H locs M134 hR hS hF => ?_)
        refine lv_goto (tgt := 911) S.1 S.2.1 dL_law_502 (by decide) ?_
        exact jL_911 S hr hg hK hX hbl hbz hLL hcs _ _ ih _ _ _ _ _ hR hS _ (lv_sub hl [3, 4, 5, 6, 7, 8, 9, 10, 11, 12, 13, 14, 15] rfl) hF
      · replace hF := z_cf hF hc132
        refine lv_iconst (v := 0) S.1 S.2.1 dL_law_479 (by decide) ?_
        exact (z_no hF).elim
set_option maxRecDepth 100000 in
set_option maxHeartbeats 8000000 in
theorem lL_184 (S : CallFix p m c code 21 s #[Value.ref b] zT RL) (hr : meth.sig.returnType = ret) (hg : zAd g z) (hK : zK g s) (hX : va_X b L xs s s.heap) (hbl : b < s.heap.size) (hbz : b < z) (hLL : L ≤ 260) (hcs : cells ≤ room_1.cells ∧ slots ≤ room_1.slots) {M' : zM} : ∀ (k : zM → Int32 → Option (Int32 × zM)) (a11 : Int32) (a12 : Int32) (a13 : Int32) (a18 : Int32), (∀ (M : zM) (a19 : Int32) (H : Heap) (locs : List Loc), zR g M H → va_S (zS z) s.heap H locs → ∀ ls : Array Slot, lv_has ls 21 [(0, .ref b), (1, .ref (g.1 0 0)), (2, .ref (g.1 26 0)), (3, .ref (g.1 27 0)), (4, .ref (g.1 28 0)), (5, .ref (g.1 29 0)), (6, .ref (g.1 30 0)), (7, .ref (g.1 31 0)), (8, .ref (g.1 32 0)), (9, .ref (g.1 33 0)), (10, .ref (g.1 34 0)), (11, .int a11), (12, .int a12), (13, .int a13), (18, .int a18), (19, .int a19)] → k M a19 = some (1, M') → W p l e room_1 s m #[Value.ref b] below meth c H locs cells slots (lw_Z below #[Value.ref b] s) (F0 m 205 ls [])) → ∀ (n : Nat) (M : zM) (a19 : Int32) (H : Heap) (locs : List Loc), zR g M H → va_S (zS z) s.heap H locs → ∀ ls : Array Slot, lv_has ls 21 [(0, .ref b), (1, .ref (g.1 0 0)), (2, .ref (g.1 26 0)), (3, .ref (g.1 27 0)), (4, .ref (g.1 28 0)), (5, .ref (g.1 29 0)), (6, .ref (g.1 30 0)), (7, .ref (g.1 31 0)), (8, .ref (g.1 32 0)), (9, .ref (g.1 33 0)), (10, .ref (g.1 34 0)), (11, .int a11), (12, .int a12), (13, .int a13), (18, .int a18), (19, .int a19)] → fL_law_L184 k xs L a11 a12 a13 a18 n M a19 = some (1, M') → W p l e room_1 s m #[Value.ref b] below meth c H locs cells slots (lw_Z below #[Value.ref b] s) (F0 m 184 ls []) := by
    intro k a11 a12 a13 a18 hk n
    induction n with
    | zero =>
      intro M a19 H locs hR hS ls hl hF
      cases hF
    | succ n ih =>
      intro M a19 H locs hR hS ls hl hF
      unfold fL_law_L184 at hF
      refine lv_iload S.1 S.2.1 dL_law_184 (lv_at hl 15 rfl) ?_
      refine lv_bipush (v := 12) S.1 S.2.1 dL_law_186 (by decide) ?_
      refine lv_icmp_ge (tgt := 205) S.1 S.2.1 dL_law_188 (by decide) (fun hc137 => ?_) (fun hc137 => ?_)
      · replace hF := z_ct hF hc137
        exact hk _ _ _ _ hR hS _ (lv_sub hl [0, 1, 2, 3, 4, 5, 6, 7, 8, 9, 10, 11, 12, 13, 14, 15] rfl) hF
      · replace hF := z_cf hF hc137
        refine lv_aload_n S.1 S.2.1 dL_law_191 rfl (lv_at hl 3 rfl) ?_
        refine lv_iload S.1 S.2.1 dL_law_192 (lv_at hl 14 rfl) ?_
        refine lv_iload S.1 S.2.1 dL_law_194 (lv_at hl 15 rfl) ?_
        refine lv_iadd S.1 S.2.1 dL_law_196 ?_
        refine lv_iconst (v := 0) S.1 S.2.1 dL_law_197 (by decide) ?_
        refine z_iast (k := 27) (i := 0) (n := 48) S hg hK hR hS hF (by decide) rfl dL_law_198 (fun H locs M138 hR hS hF => ?_)
        obtain ⟨v139, ev139, hF⟩ := zL_out hF
        refine lv_iinc (v := v139) (lv' := [(19, .int v139), (0, .ref b), (1, .ref (g.1 0 0)), (2, .ref (g.1 26 0)), (3, .ref (g.1 27 0)), (4, .ref (g.1 28 0)), (5, .ref (g.1 29 0)), (6, .ref (g.1 30 0)), (7, .ref (g.1 31 0)), (8, .ref (g.1 32 0)), (9, .ref (g.1 33 0)), (10, .ref (g.1 34 0)), (11, .int a11), (12, .int a12), (13, .int a13), (18, .int a18)]) S.1 S.2.1 dL_law_199 hl (k := 15) rfl (by rw [← ev139]; rfl) (by decide) rfl (fun ls hl => ?_)
        refine lv_goto (tgt := 184) S.1 S.2.1 dL_law_202 (by decide) ?_
        exact ih _ _ _ _ hR hS _ (lv_sub hl [1, 2, 3, 4, 5, 6, 7, 8, 9, 10, 11, 12, 13, 14, 15, 0] rfl) hF
set_option maxRecDepth 100000 in
set_option maxHeartbeats 8000000 in
theorem jL_300 (S : CallFix p m c code 21 s #[Value.ref b] zT RL) (hr : meth.sig.returnType = ret) (hg : zAd g z) (hK : zK g s) (hX : va_X b L xs s s.heap) (hbl : b < s.heap.size) (hbz : b < z) (hLL : L ≤ 260) (hcs : cells ≤ room_1.cells ∧ slots ≤ room_1.slots) {M' : zM} (rec k : zM → Int32 → Option (Int32 × zM)) (ih : ∀ (M : zM) (a11 : Int32) (H : Heap) (locs : List Loc), zR g M H → va_S (zS z) s.heap H locs → ∀ ls : Array Slot, lv_has ls 21 [(0, .ref b), (1, .ref (g.1 0 0)), (2, .ref (g.1 26 0)), (3, .ref (g.1 27 0)), (4, .ref (g.1 28 0)), (5, .ref (g.1 29 0)), (6, .ref (g.1 30 0)), (7, .ref (g.1 31 0)), (8, .ref (g.1 32 0)), (9, .ref (g.1 33 0)), (10, .ref (g.1 34 0)), (11, .int a11)] → rec M a11 = some (1, M') → W p l e room_1 s m #[Value.ref b] below meth c H locs cells slots (lw_Z below #[Value.ref b] s) (F0 m 61 ls [])) (M : zM) (a11 : Int32) (a13 : Int32) (a18 : Int32) (H : Heap) (locs : List Loc) (hR : zR g M H) (hS : va_S (zS z) s.heap H locs) (ls : Array Slot) (hl : lv_has ls 21 [(0, .ref b), (1, .ref (g.1 0 0)), (2, .ref (g.1 26 0)), (3, .ref (g.1 27 0)), (4, .ref (g.1 28 0)), (5, .ref (g.1 29 0)), (6, .ref (g.1 30 0)), (7, .ref (g.1 31 0)), (8, .ref (g.1 32 0)), (9, .ref (g.1 33 0)), (10, .ref (g.1 34 0)), (11, .int a11), (13, .int a13), (18, .int a18)]) (hF : fL_law_J300 rec k xs L M a11 a13 a18 = some (1, M')) : W p l e room_1 s m #[Value.ref b] below meth c H locs cells slots (lw_Z below #[Value.ref b] s) (F0 m 300 ls []) := by
  unfold fL_law_J300 at hF
  refine lv_aload_n S.1 S.2.1 dL_law_300 rfl (lv_at hl 3 rfl) ?_
  refine lv_aload S.1 S.2.1 dL_law_301 (lv_at hl 8 rfl) ?_
  refine lv_bipush (v := 48) S.1 S.2.1 dL_law_303 (by decide) ?_
  refine z_gov hS hF (fun _ _ ho => va_runS (n := 3) (As := [.ref (g.1 27 0), .ref (g.1 32 0), .int 48]) (rest := []) S (kL_copy l hg (by decide) rfl (by decide) rfl ho) (va_cwS 3 S.2.2.2.2 (zgS wm_L_46 oL_copy) rfl rfl rfl hL_copy.2 ⟨Nat.le_of_ble_eq_true rfl, Nat.le_of_ble_eq_true rfl⟩) ⟨zPc_blind, z_pre hK hR⟩ rfl rfl hl.1 rfl (lv_room (Nat.le_of_ble_eq_true rfl)) dL_law_305 hcs) (fun M160 H locs hR hS hF => ?_)
  refine lv_aload_n S.1 S.2.1 dL_law_308 rfl (lv_at hl 3 rfl) ?_
  refine lv_iload S.1 S.2.1 dL_law_309 (lv_at hl 13 rfl) ?_
  refine lv_bipush (v := 9) S.1 S.2.1 dL_law_311 (by decide) ?_
  refine lv_iadd S.1 S.2.1 dL_law_313 ?_
  refine lv_aload_n S.1 S.2.1 dL_law_314 rfl (lv_at hl 3 rfl) ?_
  refine lv_iload S.1 S.2.1 dL_law_315 (lv_at hl 13 rfl) ?_
  refine z_iald (k := 27) (i := 0) (n := 48) S hK hR hF (by decide) rfl dL_law_317 (fun hF => ?_)
  refine z_iast (k := 27) (i := 0) (n := 48) S hg hK hR hS hF (by decide) rfl dL_law_318 (fun H locs M161 hR hS hF => ?_)
  refine lv_aload_n S.1 S.2.1 dL_law_319 rfl (lv_at hl 3 rfl) ?_
  refine lv_iload S.1 S.2.1 dL_law_320 (lv_at hl 13 rfl) ?_
  refine lv_bipush (v := 10) S.1 S.2.1 dL_law_322 (by decide) ?_
  refine lv_iadd S.1 S.2.1 dL_law_324 ?_
  refine lv_aload_n S.1 S.2.1 dL_law_325 rfl (lv_at hl 3 rfl) ?_
  refine lv_iload S.1 S.2.1 dL_law_326 (lv_at hl 13 rfl) ?_
  refine lv_iconst (v := 1) S.1 S.2.1 dL_law_328 (by decide) ?_
  refine lv_iadd S.1 S.2.1 dL_law_329 ?_
  refine z_iald (k := 27) (i := 0) (n := 48) S hK hR hF (by decide) rfl dL_law_330 (fun hF => ?_)
  refine z_iast (k := 27) (i := 0) (n := 48) S hg hK hR hS hF (by decide) rfl dL_law_331 (fun H locs M162 hR hS hF => ?_)
  refine lv_aload_n S.1 S.2.1 dL_law_332 rfl (lv_at hl 3 rfl) ?_
  refine lv_iload S.1 S.2.1 dL_law_333 (lv_at hl 13 rfl) ?_
  refine lv_bipush (v := 11) S.1 S.2.1 dL_law_335 (by decide) ?_
  refine lv_iadd S.1 S.2.1 dL_law_337 ?_
  refine lv_aload_n S.1 S.2.1 dL_law_338 rfl (lv_at hl 3 rfl) ?_
  refine lv_iload S.1 S.2.1 dL_law_339 (lv_at hl 13 rfl) ?_
  refine lv_iconst (v := 2) S.1 S.2.1 dL_law_341 (by decide) ?_
  refine lv_iadd S.1 S.2.1 dL_law_342 ?_
  refine z_iald (k := 27) (i := 0) (n := 48) S hK hR hF (by decide) rfl dL_law_343 (fun hF => ?_)
  refine z_iast (k := 27) (i := 0) (n := 48) S hg hK hR hS hF (by decide) rfl dL_law_344 (fun H locs M163 hR hS hF => ?_)
  refine lv_aload_n S.1 S.2.1 dL_law_345 rfl (lv_at hl 1 rfl) ?_
  refine lv_aload_n S.1 S.2.1 dL_law_346 rfl (lv_at hl 3 rfl) ?_
  refine lv_iload S.1 S.2.1 dL_law_347 (lv_at hl 13 rfl) ?_
  refine z_iald (k := 27) (i := 0) (n := 48) S hK hR hF (by decide) rfl dL_law_349 (fun hF => ?_)
  refine lv_aload_n S.1 S.2.1 dL_law_350 rfl (lv_at hl 3 rfl) ?_
  refine lv_iload S.1 S.2.1 dL_law_351 (lv_at hl 13 rfl) ?_
  refine lv_iconst (v := 1) S.1 S.2.1 dL_law_353 (by decide) ?_
  refine lv_iadd S.1 S.2.1 dL_law_354 ?_
  refine z_iald (k := 27) (i := 0) (n := 48) S hK hR hF (by decide) rfl dL_law_355 (fun hF => ?_)
  refine lv_aload_n S.1 S.2.1 dL_law_356 rfl (lv_at hl 3 rfl) ?_
  refine lv_iload S.1 S.2.1 dL_law_357 (lv_at hl 13 rfl) ?_
  refine lv_iconst (v := 2) S.1 S.2.1 dL_law_359 (by decide) ?_
  refine lv_iadd S.1 S.2.1 dL_law_360 ?_
  refine z_iald (k := 27) (i := 0) (n := 48) S hK hR hF (by decide) rfl dL_law_361 (fun hF => ?_)
  refine lv_aload_n S.1 S.2.1 dL_law_362 rfl (lv_at hl 3 rfl) ?_
  refine lv_iload S.1 S.2.1 dL_law_363 (lv_at hl 13 rfl) ?_
  refine lv_iconst (v := 5) S.1 S.2.1 dL_law_365 (by decide) ?_
  refine lv_iadd S.1 S.2.1 dL_law_366 ?_
  refine z_iald (k := 27) (i := 0) (n := 48) S hK hR hF (by decide) rfl dL_law_367 (fun hF => ?_)
  refine lv_aload_n S.1 S.2.1 dL_law_368 rfl (lv_at hl 3 rfl) ?_
  refine lv_iload S.1 S.2.1 dL_law_369 (lv_at hl 13 rfl) ?_
  refine lv_bipush (v := 6) S.1 S.2.1 dL_law_371 (by decide) ?_
  refine lv_iadd S.1 S.2.1 dL_law_373 ?_
  refine z_iald (k := 27) (i := 0) (n := 48) S hK hR hF (by decide) rfl dL_law_374 (fun hF => ?_)
  refine z_goi hS hF (fun _ _ ho => va_runV (C := RX6) (n := 5) (As := [.int (M163 27 0 (zN a18)), .int (M163 27 0 (zN (a18 + 1))), .int (M163 27 0 (zN (a18 + 2))), .int (M163 27 0 (zN (a18 + 5))), .int (M163 27 0 (zN (a18 + 6)))]) (rest := []) S (kX6_launch l hg ho) (cwV 5 S.2.2.2.2 (zgV wm_L_71 oX6_launch) rfl rfl rfl hX6_launch ⟨Nat.le_of_ble_eq_true rfl, Nat.le_of_ble_eq_true rfl⟩) ⟨zPc_blind, z_recv hK hR (by decide) rfl rfl, z_pre hK hR⟩ rfl rfl hl.1 rfl (lv_room (Nat.le_of_ble_eq_true rfl)) dL_law_375 hcs) (fun r165 M164 H locs hR hS hF => ?_)
  refine lv_aload_n S.1 S.2.1 dL_law_378 rfl (lv_at hl 2 rfl) ?_
  refine lv_iconst (v := 0) S.1 S.2.1 dL_law_379 (by decide) ?_
  refine lv_dup2_11 S.1 S.2.1 dL_law_380 rfl rfl ?_
  refine z_iald (k := 26) (i := 0) (n := 4) S hK hR hF (by decide) rfl dL_law_381 (fun hF => ?_)
  refine lv_dup_x2 S.1 S.2.1 dL_law_382 rfl rfl rfl ?_
  refine lv_iconst (v := 1) S.1 S.2.1 dL_law_383 (by decide) ?_
  refine lv_iadd S.1 S.2.1 dL_law_384 ?_
  refine z_iast (k := 26) (i := 0) (n := 4) S hg hK hR hS hF (by decide) rfl dL_law_385 (fun H locs M166 hR hS hF => ?_)
  refine lv_icmp_eq (tgt := 391) S.1 S.2.1 dL_law_386 (by decide) (fun hc167 => ?_) (fun hc167 => ?_)
  · replace hF := z_ct hF hc167
    refine lv_goto (tgt := 911) S.1 S.2.1 dL_law_391 (by decide) ?_
    exact jL_911 S hr hg hK hX hbl hbz hLL hcs _ _ ih _ _ _ _ _ hR hS _ (lv_sub hl [0, 1, 2, 3, 4, 5, 6, 7, 8, 9, 10, 11, 12] rfl) hF
  · replace hF := z_cf hF hc167
    refine lv_iconst (v := 0) S.1 S.2.1 dL_law_389 (by decide) ?_
    exact (z_no hF).elim
set_option maxRecDepth 100000 in
set_option maxHeartbeats 8000000 in
theorem jL_161 (S : CallFix p m c code 21 s #[Value.ref b] zT RL) (hr : meth.sig.returnType = ret) (hg : zAd g z) (hK : zK g s) (hX : va_X b L xs s s.heap) (hbl : b < s.heap.size) (hbz : b < z) (hLL : L ≤ 260) (hcs : cells ≤ room_1.cells ∧ slots ≤ room_1.slots) {M' : zM} (rec k : zM → Int32 → Option (Int32 × zM)) (ih : ∀ (M : zM) (a11 : Int32) (H : Heap) (locs : List Loc), zR g M H → va_S (zS z) s.heap H locs → ∀ ls : Array Slot, lv_has ls 21 [(0, .ref b), (1, .ref (g.1 0 0)), (2, .ref (g.1 26 0)), (3, .ref (g.1 27 0)), (4, .ref (g.1 28 0)), (5, .ref (g.1 29 0)), (6, .ref (g.1 30 0)), (7, .ref (g.1 31 0)), (8, .ref (g.1 32 0)), (9, .ref (g.1 33 0)), (10, .ref (g.1 34 0)), (11, .int a11)] → rec M a11 = some (1, M') → W p l e room_1 s m #[Value.ref b] below meth c H locs cells slots (lw_Z below #[Value.ref b] s) (F0 m 61 ls [])) (M : zM) (a11 : Int32) (a12 : Int32) (a13 : Int32) (a14 : Int32) (a15 : Int32) (a16 : Int32) (a17 : Int32) (H : Heap) (locs : List Loc) (hR : zR g M H) (hS : va_S (zS z) s.heap H locs) (ls : Array Slot) (hl : lv_has ls 21 [(0, .ref b), (1, .ref (g.1 0 0)), (2, .ref (g.1 26 0)), (3, .ref (g.1 27 0)), (4, .ref (g.1 28 0)), (5, .ref (g.1 29 0)), (6, .ref (g.1 30 0)), (7, .ref (g.1 31 0)), (8, .ref (g.1 32 0)), (9, .ref (g.1 33 0)), (10, .ref (g.1 34 0)), (11, .int a11), (12, .int a12), (13, .int a13), (14, .int a14), (15, .int a15), (16, .int a16), (17, .int a17)]) (hF : fL_law_J161 rec k xs L M a11 a12 a13 a14 a15 a16 a17 = some (1, M')) : W p l e room_1 s m #[Value.ref b] below meth c H locs cells slots (lw_Z below #[Value.ref b] s) (F0 m 161 ls []) := by
  unfold fL_law_J161 at hF
  refine lv_iload S.1 S.2.1 dL_law_161 (lv_at hl 14 rfl) ?_
  refine lv_if_ne (tgt := 394) S.1 S.2.1 dL_law_163 (by decide) (fun hc34 => ?_) (fun hc34 => ?_)
  · replace hF := z_cf hF hc34
    exact jL_394 S hr hg hK hX hbl hbz hLL hcs _ _ ih _ _ _ _ _ _ _ _ _ hR hS _ (lv_sub hl [0, 1, 2, 3, 4, 5, 6, 7, 8, 9, 10, 11, 13, 14, 15, 16, 17] rfl) hF
  · replace hF := z_ct hF hc34
    refine lv_aload_n S.1 S.2.1 dL_law_166 rfl (lv_at hl 2 rfl) ?_
    refine lv_iconst (v := 0) S.1 S.2.1 dL_law_167 (by decide) ?_
    refine z_iald (k := 26) (i := 0) (n := 4) S hK hR hF (by decide) rfl dL_law_168 (fun hF => ?_)
    refine lv_iconst (v := 4) S.1 S.2.1 dL_law_169 (by decide) ?_
    refine lv_icmp_ge (tgt := 394) S.1 S.2.1 dL_law_170 (by decide) (fun hc135 => ?_) (fun hc135 => ?_)
    · replace hF := z_ct hF hc135
      exact jL_394 S hr hg hK hX hbl hbz hLL hcs _ _ ih _ _ _ _ _ _ _ _ _ hR hS _ (lv_sub hl [0, 1, 2, 3, 4, 5, 6, 7, 8, 9, 10, 11, 13, 14, 15, 16, 17] rfl) hF
    · replace hF := z_cf hF hc135
      refine lv_bipush (v := 12) S.1 S.2.1 dL_law_173 (by decide) ?_
      refine lv_aload_n S.1 S.2.1 dL_law_175 rfl (lv_at hl 2 rfl) ?_
      refine lv_iconst (v := 0) S.1 S.2.1 dL_law_176 (by decide) ?_
      refine z_iald (k := 26) (i := 0) (n := 4) S hK hR hF (by decide) rfl dL_law_177 (fun hF => ?_)
      refine lv_imul S.1 S.2.1 dL_law_178 ?_
      refine z_nm hF (fun v136 hF => ?_)
      refine lv_istore (lv' := [(18, .int v136), (0, .ref b), (1, .ref (g.1 0 0)), (2, .ref (g.1 26 0)), (3, .ref (g.1 27 0)), (4, .ref (g.1 28 0)), (5, .ref (g.1 29 0)), (6, .ref (g.1 30 0)), (7, .ref (g.1 31 0)), (8, .ref (g.1 32 0)), (9, .ref (g.1 33 0)), (10, .ref (g.1 34 0)), (11, .int a11), (12, .int a12), (13, .int a13), (14, .int a14), (15, .int a15), (16, .int a16), (17, .int a17)]) S.1 S.2.1 dL_law_179 hl (by decide) rfl (fun ls hl => ?_)
      refine lv_iconst (v := 0) S.1 S.2.1 dL_law_181 (by decide) ?_
      refine lv_istore (lv' := [(19, .int 0), (18, .int v136), (0, .ref b), (1, .ref (g.1 0 0)), (2, .ref (g.1 26 0)), (3, .ref (g.1 27 0)), (4, .ref (g.1 28 0)), (5, .ref (g.1 29 0)), (6, .ref (g.1 30 0)), (7, .ref (g.1 31 0)), (8, .ref (g.1 32 0)), (9, .ref (g.1 33 0)), (10, .ref (g.1 34 0)), (11, .int a11), (12, .int a12), (13, .int a13), (14, .int a14), (15, .int a15), (16, .int a16), (17, .int a17)]) S.1 S.2.1 dL_law_182 hl (by decide) rfl (fun ls hl => ?_)
      refine lL_184 S hr hg hK hX hbl hbz hLL hcs _ _ _ _ _ (fun M140 v141 H locs hR hS ls hl hF => ?_) _ _ _ _ _ hR hS _ (lv_sub hl [2, 3, 4, 5, 6, 7, 8, 9, 10, 11, 12, 13, 14, 15, 1, 0] rfl) hF
      refine lv_aload_n S.1 S.2.1 dL_law_205 rfl (lv_at hl 3 rfl) ?_
      refine lv_iload S.1 S.2.1 dL_law_206 (lv_at hl 14 rfl) ?_
      refine lv_iload S.1 S.2.1 dL_law_208 (lv_at hl 12 rfl) ?_
      refine lv_iconst (v := 5) S.1 S.2.1 dL_law_210 (by decide) ?_
      refine lv_ishr S.1 S.2.1 dL_law_211 ?_
      refine lv_bipush (v := 64) S.1 S.2.1 dL_law_212 (by decide) ?_
      refine z_goi hS hF (fun _ _ ho => va_runS (n := 2) (As := [.int (a12 >>> (5 &&& 31)), .int 64]) (rest := [.int v136, .ref (g.1 27 0)]) S (kL_low l hg ho) (va_cwS 2 S.2.2.2.2 (zgS wm_L_50 oL_low) rfl rfl rfl hL_low.2 ⟨Nat.le_of_ble_eq_true rfl, Nat.le_of_ble_eq_true rfl⟩) ⟨zPc_blind, z_pre hK hR⟩ rfl rfl hl.1 rfl (lv_room (Nat.le_of_ble_eq_true rfl)) dL_law_214 hcs) (fun r143 M142 H locs hR hS hF => ?_)
      refine z_iast (k := 27) (i := 0) (n := 48) S hg hK hR hS hF (by decide) rfl dL_law_217 (fun H locs M144 hR hS hF => ?_)
      refine lv_aload_n S.1 S.2.1 dL_law_218 rfl (lv_at hl 3 rfl) ?_
      refine lv_iload S.1 S.2.1 dL_law_219 (lv_at hl 14 rfl) ?_
      refine lv_iconst (v := 1) S.1 S.2.1 dL_law_221 (by decide) ?_
      refine lv_iadd S.1 S.2.1 dL_law_222 ?_
      refine lv_iload S.1 S.2.1 dL_law_223 (lv_at hl 12 rfl) ?_
      refine lv_bipush (v := 11) S.1 S.2.1 dL_law_225 (by decide) ?_
      refine lv_ishr S.1 S.2.1 dL_law_227 ?_
      refine lv_bipush (v := 64) S.1 S.2.1 dL_law_228 (by decide) ?_
      refine z_goi hS hF (fun _ _ ho => va_runS (n := 2) (As := [.int (a12 >>> (11 &&& 31)), .int 64]) (rest := [.int (v136 + 1), .ref (g.1 27 0)]) S (kL_low l hg ho) (va_cwS 2 S.2.2.2.2 (zgS wm_L_50 oL_low) rfl rfl rfl hL_low.2 ⟨Nat.le_of_ble_eq_true rfl, Nat.le_of_ble_eq_true rfl⟩) ⟨zPc_blind, z_pre hK hR⟩ rfl rfl hl.1 rfl (lv_room (Nat.le_of_ble_eq_true rfl)) dL_law_230 hcs) (fun r146 M145 H locs hR hS hF => ?_)
      refine z_iast (k := 27) (i := 0) (n := 48) S hg hK hR hS hF (by decide) rfl dL_law_233 (fun H locs M147 hR hS hF => ?_)
      refine lv_aload_n S.1 S.2.1 dL_law_234 rfl (lv_at hl 3 rfl) ?_
      refine lv_iload S.1 S.2.1 dL_law_235 (lv_at hl 14 rfl) ?_
      refine lv_iconst (v := 2) S.1 S.2.1 dL_law_237 (by decide) ?_
      refine lv_iadd S.1 S.2.1 dL_law_238 ?_
      refine lv_iconst (v := 1) S.1 S.2.1 dL_law_239 (by decide) ?_
      refine lv_iload S.1 S.2.1 dL_law_240 (lv_at hl 13 rfl) ?_
      refine lv_bipush (v := 47) S.1 S.2.1 dL_law_242 (by decide) ?_
      refine z_goi hS hF (fun _ _ ho => va_runS (n := 2) (As := [.int a13, .int 47]) (rest := [.int 1, .int (v136 + 2), .ref (g.1 27 0)]) S (kL_low l hg ho) (va_cwS 2 S.2.2.2.2 (zgS wm_L_50 oL_low) rfl rfl rfl hL_low.2 ⟨Nat.le_of_ble_eq_true rfl, Nat.le_of_ble_eq_true rfl⟩) ⟨zPc_blind, z_pre hK hR⟩ rfl rfl hl.1 rfl (lv_room (Nat.le_of_ble_eq_true rfl)) dL_law_244 hcs) (fun r149 M148 H locs hR hS hF => ?_)
      refine lv_iadd S.1 S.2.1 dL_law_247 ?_
      refine z_iast (k := 27) (i := 0) (n := 48) S hg hK hR hS hF (by decide) rfl dL_law_248 (fun H locs M150 hR hS hF => ?_)
      refine lv_aload_n S.1 S.2.1 dL_law_249 rfl (lv_at hl 3 rfl) ?_
      refine lv_iload S.1 S.2.1 dL_law_250 (lv_at hl 14 rfl) ?_
      refine lv_iconst (v := 5) S.1 S.2.1 dL_law_252 (by decide) ?_
      refine lv_iadd S.1 S.2.1 dL_law_253 ?_
      refine lv_iload S.1 S.2.1 dL_law_254 (lv_at hl 13 rfl) ?_
      refine lv_bipush (v := 6) S.1 S.2.1 dL_law_256 (by decide) ?_
      refine lv_ishr S.1 S.2.1 dL_law_258 ?_
      refine lv_bipush (v := 6) S.1 S.2.1 dL_law_259 (by decide) ?_
      refine z_goi hS hF (fun _ _ ho => va_runS (n := 2) (As := [.int (a13 >>> (6 &&& 31)), .int 6]) (rest := [.int (v136 + 5), .ref (g.1 27 0)]) S (kL_low l hg ho) (va_cwS 2 S.2.2.2.2 (zgS wm_L_50 oL_low) rfl rfl rfl hL_low.2 ⟨Nat.le_of_ble_eq_true rfl, Nat.le_of_ble_eq_true rfl⟩) ⟨zPc_blind, z_pre hK hR⟩ rfl rfl hl.1 rfl (lv_room (Nat.le_of_ble_eq_true rfl)) dL_law_261 hcs) (fun r152 M151 H locs hR hS hF => ?_)
      refine z_iast (k := 27) (i := 0) (n := 48) S hg hK hR hS hF (by decide) rfl dL_law_264 (fun H locs M153 hR hS hF => ?_)
      refine lv_aload_n S.1 S.2.1 dL_law_265 rfl (lv_at hl 3 rfl) ?_
      refine lv_iload S.1 S.2.1 dL_law_266 (lv_at hl 14 rfl) ?_
      refine lv_bipush (v := 6) S.1 S.2.1 dL_law_268 (by decide) ?_
      refine lv_iadd S.1 S.2.1 dL_law_270 ?_
      refine lv_bipush (v := 10) S.1 S.2.1 dL_law_271 (by decide) ?_
      refine lv_iload S.1 S.2.1 dL_law_273 (lv_at hl 13 rfl) ?_
      refine lv_bipush (v := 9) S.1 S.2.1 dL_law_275 (by decide) ?_
      refine lv_ishr S.1 S.2.1 dL_law_277 ?_
      refine lv_iload S.1 S.2.1 dL_law_278 (lv_at hl 13 rfl) ?_
      refine lv_iconst (v := 3) S.1 S.2.1 dL_law_280 (by decide) ?_
      refine z_goi hS hF (fun _ _ ho => va_runS (n := 2) (As := [.int a13, .int 3]) (rest := [.int (a13 >>> (9 &&& 31)), .int 10, .int (v136 + 6), .ref (g.1 27 0)]) S (kL_low l hg ho) (va_cwS 2 S.2.2.2.2 (zgS wm_L_50 oL_low) rfl rfl rfl hL_low.2 ⟨Nat.le_of_ble_eq_true rfl, Nat.le_of_ble_eq_true rfl⟩) ⟨zPc_blind, z_pre hK hR⟩ rfl rfl hl.1 rfl (lv_room (Nat.le_of_ble_eq_true rfl)) dL_law_281 hcs) (fun r155 M154 H locs hR hS hF => ?_)
      refine lv_if_ne (tgt := 293) S.1 S.2.1 dL_law_284 (by decide) (fun hc156 => ?_) (fun hc156 => ?_)
      · replace hF := z_cf hF hc156
        refine lv_bipush (v := 30) S.1 S.2.1 dL_law_293 (by decide) ?_
        refine z_goi hS hF (fun _ _ ho => va_runS (n := 2) (As := [.int (a13 >>> (9 &&& 31)), .int 30]) (rest := [.int 10, .int (v136 + 6), .ref (g.1 27 0)]) S (kL_low l hg ho) (va_cwS 2 S.2.2.2.2 (zgS wm_L_50 oL_low) rfl rfl rfl hL_low.2 ⟨Nat.le_of_ble_eq_true rfl, Nat.le_of_ble_eq_true rfl⟩) ⟨zPc_blind, z_pre hK hR⟩ rfl rfl hl.1 rfl (lv_room (Nat.le_of_ble_eq_true rfl)) dL_law_295 hcs) (fun r158 M157 H locs hR hS hF => ?_)
        refine lv_iadd S.1 S.2.1 dL_law_298 ?_
        refine z_iast (k := 27) (i := 0) (n := 48) S hg hK hR hS hF (by decide) rfl dL_law_299 (fun H locs M159 hR hS hF => ?_)
        exact jL_300 S hr hg hK hX hbl hbz hLL hcs _ _ ih _ _ _ _ _ _ hR hS _ (lv_sub hl [0, 1, 2, 3, 4, 5, 6, 7, 8, 9, 10, 11, 13, 14] rfl) hF
      · replace hF := z_ct hF hc156
        refine lv_sipush (v := 191) S.1 S.2.1 dL_law_287 (by decide) ?_
        refine lv_goto (tgt := 295) S.1 S.2.1 dL_law_290 (by decide) ?_
        refine z_goi hS hF (fun _ _ ho => va_runS (n := 2) (As := [.int (a13 >>> (9 &&& 31)), .int 191]) (rest := [.int 10, .int (v136 + 6), .ref (g.1 27 0)]) S (kL_low l hg ho) (va_cwS 2 S.2.2.2.2 (zgS wm_L_50 oL_low) rfl rfl rfl hL_low.2 ⟨Nat.le_of_ble_eq_true rfl, Nat.le_of_ble_eq_true rfl⟩) ⟨zPc_blind, z_pre hK hR⟩ rfl rfl hl.1 rfl (lv_room (Nat.le_of_ble_eq_true rfl)) dL_law_295 hcs) (fun r169 M168 H locs hR hS hF => ?_)
        refine lv_iadd S.1 S.2.1 dL_law_298 ?_
        refine z_iast (k := 27) (i := 0) (n := 48) S hg hK hR hS hF (by decide) rfl dL_law_299 (fun H locs M170 hR hS hF => ?_)
        exact jL_300 S hr hg hK hX hbl hbz hLL hcs _ _ ih _ _ _ _ _ _ hR hS _ (lv_sub hl [0, 1, 2, 3, 4, 5, 6, 7, 8, 9, 10, 11, 13, 14] rfl) hF
set_option maxRecDepth 100000 in
set_option maxHeartbeats 8000000 in
theorem jL_131 (S : CallFix p m c code 21 s #[Value.ref b] zT RL) (hr : meth.sig.returnType = ret) (hg : zAd g z) (hK : zK g s) (hX : va_X b L xs s s.heap) (hbl : b < s.heap.size) (hbz : b < z) (hLL : L ≤ 260) (hcs : cells ≤ room_1.cells ∧ slots ≤ room_1.slots) {M' : zM} (rec k : zM → Int32 → Option (Int32 × zM)) (ih : ∀ (M : zM) (a11 : Int32) (H : Heap) (locs : List Loc), zR g M H → va_S (zS z) s.heap H locs → ∀ ls : Array Slot, lv_has ls 21 [(0, .ref b), (1, .ref (g.1 0 0)), (2, .ref (g.1 26 0)), (3, .ref (g.1 27 0)), (4, .ref (g.1 28 0)), (5, .ref (g.1 29 0)), (6, .ref (g.1 30 0)), (7, .ref (g.1 31 0)), (8, .ref (g.1 32 0)), (9, .ref (g.1 33 0)), (10, .ref (g.1 34 0)), (11, .int a11)] → rec M a11 = some (1, M') → W p l e room_1 s m #[Value.ref b] below meth c H locs cells slots (lw_Z below #[Value.ref b] s) (F0 m 61 ls [])) (M : zM) (a11 : Int32) (a12 : Int32) (a13 : Int32) (a14 : Int32) (a15 : Int32) (H : Heap) (locs : List Loc) (hR : zR g M H) (hS : va_S (zS z) s.heap H locs) (ls : Array Slot) (hl : lv_has ls 21 [(0, .ref b), (1, .ref (g.1 0 0)), (2, .ref (g.1 26 0)), (3, .ref (g.1 27 0)), (4, .ref (g.1 28 0)), (5, .ref (g.1 29 0)), (6, .ref (g.1 30 0)), (7, .ref (g.1 31 0)), (8, .ref (g.1 32 0)), (9, .ref (g.1 33 0)), (10, .ref (g.1 34 0)), (11, .int a11), (12, .int a12), (13, .int a13), (14, .int a14), (15, .int a15)]) (hF : fL_law_J131 rec k xs L M a11 a12 a13 a14 a15 = some (1, M')) : W p l e room_1 s m #[Value.ref b] below meth c H locs cells slots (lw_Z below #[Value.ref b] s) (F0 m 131 ls []) := by
  unfold fL_law_J131 at hF
  refine lv_bipush (v := 12) S.1 S.2.1 dL_law_131 (by decide) ?_
  refine lv_iload S.1 S.2.1 dL_law_133 (lv_at hl 15 rfl) ?_
  refine lv_imul S.1 S.2.1 dL_law_135 ?_
  refine z_nm hF (fun v32 hF => ?_)
  refine lv_istore (lv' := [(16, .int v32), (0, .ref b), (1, .ref (g.1 0 0)), (2, .ref (g.1 26 0)), (3, .ref (g.1 27 0)), (4, .ref (g.1 28 0)), (5, .ref (g.1 29 0)), (6, .ref (g.1 30 0)), (7, .ref (g.1 31 0)), (8, .ref (g.1 32 0)), (9, .ref (g.1 33 0)), (10, .ref (g.1 34 0)), (11, .int a11), (12, .int a12), (13, .int a13), (14, .int a14), (15, .int a15)]) S.1 S.2.1 dL_law_136 hl (by decide) rfl (fun ls hl => ?_)
  refine lv_aload_n S.1 S.2.1 dL_law_138 rfl (lv_at hl 3 rfl) ?_
  refine lv_iconst (v := 0) S.1 S.2.1 dL_law_139 (by decide) ?_
  refine z_iald (k := 26) (i := 0) (n := 4) S hK hR hF (by decide) rfl dL_law_140 (fun hF => ?_)
  refine lv_if_le (tgt := 158) S.1 S.2.1 dL_law_141 (by decide) (fun hc33 => ?_) (fun hc33 => ?_)
  · replace hF := z_ct hF hc33
    refine lv_iconst (v := 0) S.1 S.2.1 dL_law_158 (by decide) ?_
    refine lv_istore (lv' := [(17, .int 0), (16, .int v32), (0, .ref b), (1, .ref (g.1 0 0)), (2, .ref (g.1 26 0)), (3, .ref (g.1 27 0)), (4, .ref (g.1 28 0)), (5, .ref (g.1 29 0)), (6, .ref (g.1 30 0)), (7, .ref (g.1 31 0)), (8, .ref (g.1 32 0)), (9, .ref (g.1 33 0)), (10, .ref (g.1 34 0)), (11, .int a11), (12, .int a12), (13, .int a13), (14, .int a14), (15, .int a15)]) S.1 S.2.1 dL_law_159 hl (by decide) rfl (fun ls hl => ?_)
    exact jL_161 S hr hg hK hX hbl hbz hLL hcs _ _ ih _ _ _ _ _ _ _ _ _ _ hR hS _ (lv_sub hl [2, 3, 4, 5, 6, 7, 8, 9, 10, 11, 12, 13, 14, 15, 16, 17, 1, 0] rfl) hF
  · replace hF := z_cf hF hc33
    refine lv_aload_n S.1 S.2.1 dL_law_144 rfl (lv_at hl 4 rfl) ?_
    refine lv_iload S.1 S.2.1 dL_law_145 (lv_at hl 0 rfl) ?_
    refine lv_bipush (v := 8) S.1 S.2.1 dL_law_147 (by decide) ?_
    refine lv_iadd S.1 S.2.1 dL_law_149 ?_
    refine z_iald (k := 27) (i := 0) (n := 48) S hK hR hF (by decide) rfl dL_law_150 (fun hF => ?_)
    refine lv_if_ne (tgt := 158) S.1 S.2.1 dL_law_151 (by decide) (fun hc171 => ?_) (fun hc171 => ?_)
    · replace hF := z_cf hF hc171
      refine lv_iconst (v := 0) S.1 S.2.1 dL_law_158 (by decide) ?_
      refine lv_istore (lv' := [(17, .int 0), (16, .int v32), (0, .ref b), (1, .ref (g.1 0 0)), (2, .ref (g.1 26 0)), (3, .ref (g.1 27 0)), (4, .ref (g.1 28 0)), (5, .ref (g.1 29 0)), (6, .ref (g.1 30 0)), (7, .ref (g.1 31 0)), (8, .ref (g.1 32 0)), (9, .ref (g.1 33 0)), (10, .ref (g.1 34 0)), (11, .int a11), (12, .int a12), (13, .int a13), (14, .int a14), (15, .int a15)]) S.1 S.2.1 dL_law_159 hl (by decide) rfl (fun ls hl => ?_)
      exact jL_161 S hr hg hK hX hbl hbz hLL hcs _ _ ih _ _ _ _ _ _ _ _ _ _ hR hS _ (lv_sub hl [2, 3, 4, 5, 6, 7, 8, 9, 10, 11, 12, 13, 14, 15, 16, 17, 1, 0] rfl) hF
    · replace hF := z_ct hF hc171
      refine lv_iconst (v := 1) S.1 S.2.1 dL_law_154 (by decide) ?_
      refine lv_goto (tgt := 159) S.1 S.2.1 dL_law_155 (by decide) ?_
      refine lv_istore (lv' := [(17, .int 1), (16, .int v32), (0, .ref b), (1, .ref (g.1 0 0)), (2, .ref (g.1 26 0)), (3, .ref (g.1 27 0)), (4, .ref (g.1 28 0)), (5, .ref (g.1 29 0)), (6, .ref (g.1 30 0)), (7, .ref (g.1 31 0)), (8, .ref (g.1 32 0)), (9, .ref (g.1 33 0)), (10, .ref (g.1 34 0)), (11, .int a11), (12, .int a12), (13, .int a13), (14, .int a14), (15, .int a15)]) S.1 S.2.1 dL_law_159 hl (by decide) rfl (fun ls hl => ?_)
      exact jL_161 S hr hg hK hX hbl hbz hLL hcs _ _ ih _ _ _ _ _ _ _ _ _ _ hR hS _ (lv_sub hl [2, 3, 4, 5, 6, 7, 8, 9, 10, 11, 12, 13, 14, 15, 16, 17, 1, 0] rfl) hF
set_option maxRecDepth 100000 in
set_option maxHeartbeats 8000000 in
theorem jL_109 (S : CallFix p m c code 21 s #[Value.ref b] zT RL) (hr : meth.sig.returnType = ret) (hg : zAd g z) (hK : zK g s) (hX : va_X b L xs s s.heap) (hbl : b < s.heap.size) (hbz : b < z) (hLL : L ≤ 260) (hcs : cells ≤ room_1.cells ∧ slots ≤ room_1.slots) {M' : zM} (rec k : zM → Int32 → Option (Int32 × zM)) (ih : ∀ (M : zM) (a11 : Int32) (H : Heap) (locs : List Loc), zR g M H → va_S (zS z) s.heap H locs → ∀ ls : Array Slot, lv_has ls 21 [(0, .ref b), (1, .ref (g.1 0 0)), (2, .ref (g.1 26 0)), (3, .ref (g.1 27 0)), (4, .ref (g.1 28 0)), (5, .ref (g.1 29 0)), (6, .ref (g.1 30 0)), (7, .ref (g.1 31 0)), (8, .ref (g.1 32 0)), (9, .ref (g.1 33 0)), (10, .ref (g.1 34 0)), (11, .int a11)] → rec M a11 = some (1, M') → W p l e room_1 s m #[Value.ref b] below meth c H locs cells slots (lw_Z below #[Value.ref b] s) (F0 m 61 ls [])) (M : zM) (a11 : Int32) (a12 : Int32) (a13 : Int32) (a14 : Int32) (H : Heap) (locs : List Loc) (hR : zR g M H) (hS : va_S (zS z) s.heap H locs) (ls : Array Slot) (hl : lv_has ls 21 [(0, .ref b), (1, .ref (g.1 0 0)), (2, .ref (g.1 26 0)), (3, .ref (g.1 27 0)), (4, .ref (g.1 28 0)), (5, .ref (g.1 29 0)), (6, .ref (g.1 30 0)), (7, .ref (g.1 31 0)), (8, .ref (g.1 32 0)), (9, .ref (g.1 33 0)), (10, .ref (g.1 34 0)), (11, .int a11), (12, .int a12), (13, .int a13), (14, .int a14)]) (hF : fL_law_J109 rec k xs L M a11 a12 a13 a14 = some (1, M')) : W p l e room_1 s m #[Value.ref b] below meth c H locs cells slots (lw_Z below #[Value.ref b] s) (F0 m 109 ls []) := by
  unfold fL_law_J109 at hF
  refine lv_aload_n S.1 S.2.1 dL_law_109 rfl (lv_at hl 2 rfl) ?_
  refine lv_iconst (v := 0) S.1 S.2.1 dL_law_110 (by decide) ?_
  refine z_iald (k := 26) (i := 0) (n := 4) S hK hR hF (by decide) rfl dL_law_111 (fun hF => ?_)
  refine lv_if_ne (tgt := 119) S.1 S.2.1 dL_law_112 (by decide) (fun hc29 => ?_) (fun hc29 => ?_)
  · replace hF := z_cf hF hc29
    refine lv_iload S.1 S.2.1 dL_law_119 (lv_at hl 12 rfl) ?_
    refine lv_iconst (v := 4) S.1 S.2.1 dL_law_121 (by decide) ?_
    refine lv_ishr S.1 S.2.1 dL_law_122 ?_
    refine lv_aload_n S.1 S.2.1 dL_law_123 rfl (lv_at hl 2 rfl) ?_
    refine lv_iconst (v := 0) S.1 S.2.1 dL_law_124 (by decide) ?_
    refine z_iald (k := 26) (i := 0) (n := 4) S hK hR hF (by decide) rfl dL_law_125 (fun hF => ?_)
    refine z_goi hS hF (fun _ _ ho => va_runS (n := 2) (As := [.int (a12 >>> (4 &&& 31)), .int (M 26 0 (zN 0))]) (rest := []) S (kL_low l hg ho) (va_cwS 2 S.2.2.2.2 (zgS wm_L_50 oL_low) rfl rfl rfl hL_low.2 ⟨Nat.le_of_ble_eq_true rfl, Nat.le_of_ble_eq_true rfl⟩) ⟨zPc_blind, z_pre hK hR⟩ rfl rfl hl.1 rfl (lv_room (Nat.le_of_ble_eq_true rfl)) dL_law_126 hcs) (fun r31 M30 H locs hR hS hF => ?_)
    refine lv_istore (lv' := [(15, .int r31), (0, .ref b), (1, .ref (g.1 0 0)), (2, .ref (g.1 26 0)), (3, .ref (g.1 27 0)), (4, .ref (g.1 28 0)), (5, .ref (g.1 29 0)), (6, .ref (g.1 30 0)), (7, .ref (g.1 31 0)), (8, .ref (g.1 32 0)), (9, .ref (g.1 33 0)), (10, .ref (g.1 34 0)), (11, .int a11), (12, .int a12), (13, .int a13), (14, .int a14)]) S.1 S.2.1 dL_law_129 hl (by decide) rfl (fun ls hl => ?_)
    exact jL_131 S hr hg hK hX hbl hbz hLL hcs _ _ ih _ _ _ _ _ _ _ _ hR hS _ (lv_sub hl [1, 2, 3, 4, 5, 6, 7, 8, 9, 10, 11, 12, 13, 14, 15, 0] rfl) hF
  · replace hF := z_ct hF hc29
    refine lv_iconst (v := 0) S.1 S.2.1 dL_law_115 (by decide) ?_
    refine lv_goto (tgt := 129) S.1 S.2.1 dL_law_116 (by decide) ?_
    refine lv_istore (lv' := [(15, .int 0), (0, .ref b), (1, .ref (g.1 0 0)), (2, .ref (g.1 26 0)), (3, .ref (g.1 27 0)), (4, .ref (g.1 28 0)), (5, .ref (g.1 29 0)), (6, .ref (g.1 30 0)), (7, .ref (g.1 31 0)), (8, .ref (g.1 32 0)), (9, .ref (g.1 33 0)), (10, .ref (g.1 34 0)), (11, .int a11), (12, .int a12), (13, .int a13), (14, .int a14)]) S.1 S.2.1 dL_law_129 hl (by decide) rfl (fun ls hl => ?_)
    exact jL_131 S hr hg hK hX hbl hbz hLL hcs _ _ ih _ _ _ _ _ _ _ _ hR hS _ (lv_sub hl [1, 2, 3, 4, 5, 6, 7, 8, 9, 10, 11, 12, 13, 14, 15, 0] rfl) hF
set_option maxRecDepth 100000 in
set_option maxHeartbeats 8000000 in
theorem lL_61 (S : CallFix p m c code 21 s #[Value.ref b] zT RL) (hr : meth.sig.returnType = ret) (hg : zAd g z) (hK : zK g s) (hX : va_X b L xs s s.heap) (hbl : b < s.heap.size) (hbz : b < z) (hLL : L ≤ 260) (hcs : cells ≤ room_1.cells ∧ slots ≤ room_1.slots) {M' : zM} : ∀ (k : zM → Int32 → Option (Int32 × zM)) , (∀ (M : zM) (a11 : Int32) (H : Heap) (locs : List Loc), zR g M H → va_S (zS z) s.heap H locs → ∀ ls : Array Slot, lv_has ls 21 [(0, .ref b), (1, .ref (g.1 0 0)), (2, .ref (g.1 26 0)), (3, .ref (g.1 27 0)), (4, .ref (g.1 28 0)), (5, .ref (g.1 29 0)), (6, .ref (g.1 30 0)), (7, .ref (g.1 31 0)), (8, .ref (g.1 32 0)), (9, .ref (g.1 33 0)), (10, .ref (g.1 34 0)), (11, .int a11)] → k M a11 = some (1, M') → W p l e room_1 s m #[Value.ref b] below meth c H locs cells slots (lw_Z below #[Value.ref b] s) (F0 m 977 ls [])) → ∀ (n : Nat) (M : zM) (a11 : Int32) (H : Heap) (locs : List Loc), zR g M H → va_S (zS z) s.heap H locs → ∀ ls : Array Slot, lv_has ls 21 [(0, .ref b), (1, .ref (g.1 0 0)), (2, .ref (g.1 26 0)), (3, .ref (g.1 27 0)), (4, .ref (g.1 28 0)), (5, .ref (g.1 29 0)), (6, .ref (g.1 30 0)), (7, .ref (g.1 31 0)), (8, .ref (g.1 32 0)), (9, .ref (g.1 33 0)), (10, .ref (g.1 34 0)), (11, .int a11)] → fL_law_L61 k xs L n M a11 = some (1, M') → W p l e room_1 s m #[Value.ref b] below meth c H locs cells slots (lw_Z below #[Value.ref b] s) (F0 m 61 ls []) := by
    intro k  hk n
    induction n with
    | zero =>
      intro M a11 H locs hR hS ls hl hF
      cases hF
    | succ n ih =>
      intro M a11 H locs hR hS ls hl hF
      unfold fL_law_L61 at hF
      refine lv_iload S.1 S.2.1 dL_law_61 (lv_at hl 11 rfl) ?_
      refine lv_bipush (v := 22) S.1 S.2.1 dL_law_63 (by decide) ?_
      refine lv_icmp_ge (tgt := 977) S.1 S.2.1 dL_law_65 (by decide) (fun hc21 => ?_) (fun hc21 => ?_)
      · replace hF := z_ct hF hc21
        exact hk _ _ _ _ hR hS _ (lv_sub hl [0, 1, 2, 3, 4, 5, 6, 7, 8, 9, 10, 11] rfl) hF
      · replace hF := z_cf hF hc21
        refine lv_aload_n S.1 S.2.1 dL_law_68 rfl (lv_at hl 0 rfl) ?_
        refine lv_iconst (v := 2) S.1 S.2.1 dL_law_69 (by decide) ?_
        refine lv_iload S.1 S.2.1 dL_law_70 (lv_at hl 11 rfl) ?_
        refine lv_imul S.1 S.2.1 dL_law_72 ?_
        refine z_goi hS hF (fun _ _ ho => va_runS (n := 2) (As := [.ref b, .int (2 * a11)]) (rest := []) S (kL_cell l hg hbz hLL ho) (va_cwS 2 S.2.2.2.2 (zgS wm_L_67 oL_cell) rfl rfl rfl hL_cell.2 ⟨Nat.le_of_ble_eq_true rfl, Nat.le_of_ble_eq_true rfl⟩) ⟨zPx_blind, z_prex hK hR (hX.kept (hS.2.1 b hbl (Nat.not_le.mpr hbz)))⟩ rfl rfl hl.1 rfl (lv_room (Nat.le_of_ble_eq_true rfl)) dL_law_73 hcs) (fun r22 M23 H locs hR hS hF => ?_)
        refine lv_istore (lv' := [(12, .int r22), (0, .ref b), (1, .ref (g.1 0 0)), (2, .ref (g.1 26 0)), (3, .ref (g.1 27 0)), (4, .ref (g.1 28 0)), (5, .ref (g.1 29 0)), (6, .ref (g.1 30 0)), (7, .ref (g.1 31 0)), (8, .ref (g.1 32 0)), (9, .ref (g.1 33 0)), (10, .ref (g.1 34 0)), (11, .int a11)]) S.1 S.2.1 dL_law_76 hl (by decide) rfl (fun ls hl => ?_)
        refine lv_aload_n S.1 S.2.1 dL_law_78 rfl (lv_at hl 1 rfl) ?_
        refine lv_iconst (v := 2) S.1 S.2.1 dL_law_79 (by decide) ?_
        refine lv_iload S.1 S.2.1 dL_law_80 (lv_at hl 12 rfl) ?_
        refine lv_imul S.1 S.2.1 dL_law_82 ?_
        refine lv_iconst (v := 1) S.1 S.2.1 dL_law_83 (by decide) ?_
        refine lv_iadd S.1 S.2.1 dL_law_84 ?_
        refine z_goi hS hF (fun _ _ ho => va_runS (n := 2) (As := [.ref b, .int ((2 * a11) + 1)]) (rest := []) S (kL_cell l hg hbz hLL ho) (va_cwS 2 S.2.2.2.2 (zgS wm_L_67 oL_cell) rfl rfl rfl hL_cell.2 ⟨Nat.le_of_ble_eq_true rfl, Nat.le_of_ble_eq_true rfl⟩) ⟨zPx_blind, z_prex hK hR (hX.kept (hS.2.1 b hbl (Nat.not_le.mpr hbz)))⟩ rfl rfl hl.1 rfl (lv_room (Nat.le_of_ble_eq_true rfl)) dL_law_85 hcs) (fun r24 M25 H locs hR hS hF => ?_)
        refine lv_istore (lv' := [(13, .int r24), (12, .int r22), (0, .ref b), (1, .ref (g.1 0 0)), (2, .ref (g.1 26 0)), (3, .ref (g.1 27 0)), (4, .ref (g.1 28 0)), (5, .ref (g.1 29 0)), (6, .ref (g.1 30 0)), (7, .ref (g.1 31 0)), (8, .ref (g.1 32 0)), (9, .ref (g.1 33 0)), (10, .ref (g.1 34 0)), (11, .int a11)]) S.1 S.2.1 dL_law_88 hl (by decide) rfl (fun ls hl => ?_)
        refine lv_iload S.1 S.2.1 dL_law_90 (lv_at hl 13 rfl) ?_
        refine lv_iconst (v := 3) S.1 S.2.1 dL_law_92 (by decide) ?_
        refine lv_icmp_ge (tgt := 100) S.1 S.2.1 dL_law_93 (by decide) (fun hc26 => ?_) (fun hc26 => ?_)
        · replace hF := z_ct hF hc26
          refine lv_iload S.1 S.2.1 dL_law_100 (lv_at hl 1 rfl) ?_
          refine lv_bipush (v := 10) S.1 S.2.1 dL_law_102 (by decide) ?_
          refine z_goi hS hF (fun _ _ ho => va_runS (n := 2) (As := [.int r22, .int 10]) (rest := []) S (kL_low l hg ho) (va_cwS 2 S.2.2.2.2 (zgS wm_L_50 oL_low) rfl rfl rfl hL_low.2 ⟨Nat.le_of_ble_eq_true rfl, Nat.le_of_ble_eq_true rfl⟩) ⟨zPc_blind, z_pre hK hR⟩ rfl rfl hl.1 rfl (lv_room (Nat.le_of_ble_eq_true rfl)) dL_law_104 hcs) (fun r28 M27 H locs hR hS hF => ?_)
          refine lv_istore (lv' := [(14, .int r28), (13, .int r24), (12, .int r22), (0, .ref b), (1, .ref (g.1 0 0)), (2, .ref (g.1 26 0)), (3, .ref (g.1 27 0)), (4, .ref (g.1 28 0)), (5, .ref (g.1 29 0)), (6, .ref (g.1 30 0)), (7, .ref (g.1 31 0)), (8, .ref (g.1 32 0)), (9, .ref (g.1 33 0)), (10, .ref (g.1 34 0)), (11, .int a11)]) S.1 S.2.1 dL_law_107 hl (by decide) rfl (fun ls hl => ?_)
          exact jL_109 S hr hg hK hX hbl hbz hLL hcs _ _ ih _ _ _ _ _ _ _ hR hS _ (lv_sub hl [3, 4, 5, 6, 7, 8, 9, 10, 11, 12, 13, 14, 2, 1, 0] rfl) hF
        · replace hF := z_cf hF hc26
          refine lv_iconst (v := 0) S.1 S.2.1 dL_law_96 (by decide) ?_
          refine lv_goto (tgt := 107) S.1 S.2.1 dL_law_97 (by decide) ?_
          refine lv_istore (lv' := [(14, .int 0), (13, .int r24), (12, .int r22), (0, .ref b), (1, .ref (g.1 0 0)), (2, .ref (g.1 26 0)), (3, .ref (g.1 27 0)), (4, .ref (g.1 28 0)), (5, .ref (g.1 29 0)), (6, .ref (g.1 30 0)), (7, .ref (g.1 31 0)), (8, .ref (g.1 32 0)), (9, .ref (g.1 33 0)), (10, .ref (g.1 34 0)), (11, .int a11)]) S.1 S.2.1 dL_law_107 hl (by decide) rfl (fun ls hl => ?_)
          exact jL_109 S hr hg hK hX hbl hbz hLL hcs _ _ ih _ _ _ _ _ _ _ hR hS _ (lv_sub hl [3, 4, 5, 6, 7, 8, 9, 10, 11, 12, 13, 14, 2, 1, 0] rfl) hF
end ZLAW
