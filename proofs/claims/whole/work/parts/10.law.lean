def R_law : String := "PluginRunnerLaw"
def lw_P (b : Addr) (xs : List Int32) (args : Array Value) (s : State) : Prop := args = #[.ref b] ∧ s.IntsAt b xs ∧ xs.length ≤ 2048 ∧ (Jvm.Cond.and given_1 narrow_1).before args s = true
def lw_Q (_ : Array Value) (s : State) (o : Outcome) (t : State) : Prop := o = .returned (some (.int 1)) ∧ Framed s o t [] 600000 7302250
def lw_Z (below : List Frame) (a : Array Value) (s : State) : State → Prop := fun t => ∃ o, t.status = .running ∧ Ended t below o ∧ lw_Q a s o t
/-- the law's own end, with 1 on the stack, nothing written that was there before, its room as the claim has it -/
theorem lw_ret {p : Program} {l : Launch} {e : Env} {s : State} {m : MethodId} {below : List Frame} {meth : Method} {c : Code} {b : Nat} (hx : p.tables.exec = Jvm.exec) (hb : c.code = code) (hr : meth.sig.returnType = ret) (hlocks : meth.locks = false) {pc : Nat} {H : Heap} {ls : Array Slot} (hdg : decode code pc = .ok (.ireturn, 1)) : W p l e room_1 s m #[Value.ref b] below meth c H [] 600000 7302250 (lw_Z below #[Value.ref b] s) (F0 m pc ls [.int 1]) := by
  intro T hT X
  obtain ⟨fs, hret, hrun, hended, hW, hframe⟩ := X.leave (v := some (.int 1)) (hlocks := hlocks) (fun h => by rw [hr] at h; cases h)
  have hmeth' : T.vm.method? m = some meth := X.method'
  refine ⟨T.setFrames fs, ?_, .returned (some (.int 1)), hrun, hended, rfl, ⟨_, rfl⟩, hW, hframe⟩
  jvm_step X.here [X.here.top, hx, hb, hdg, hmeth', hr, ret, narrow_b1]
  (try refine ⟨rfl, ?_⟩); (try refine ⟨rfl, ?_⟩)
  first | (intro acts; rw [hret _ acts rfl rfl rfl]) | rw [hret _ _ rfl rfl rfl]
  exact Steps.refl _
/-- what holds at the law's entry: the machine, the code, the tables' words (any of lw_tbl by 'hts w (by decide +kernel)'), the script of L ints xs at the cell b, what the Statement gives of the start (any of its parts by flat_of_before) -/
def lw_At (p : Program) (s : State) (m : MethodId) (meth : Method) (c : Code) (b L : Nat) (xs : Nat → Int32) : Prop :=
  p.tables.exec = Jvm.exec ∧ c.code = code ∧ meth.sig.returnType = ret ∧ c.maxLocals = 4 ∧ s.vm.findClass R_law = some m.cls ∧ (∀ w ∈ lw_tbl, w.before #[Value.ref b] s = true) ∧ va_X b L xs s s.heap ∧ b < s.heap.size ∧ meth.locks = false ∧ (Jvm.Cond.and given_1 narrow_1).before #[Value.ref b] s = true
theorem rw_sld {p : Program} {l : Launch} {e : Env} {R : Room} {s : State} {m : MethodId} {args : Array Value} {below : List Frame} {meth : Method} {c : Code} {H : Heap} {locs : List Loc} {cells slots : Nat} {Q : State → Prop} {cc : ByteArray} {pc : Nat} {ls : Array Slot} {rest : List Value} {A : Nat → Prop} {H0 : Heap} (hexec : p.tables.exec = Jvm.exec) (hb : c.code = cc) {b L : Nat} {xs : Nat → Int32} (hX : va_X b L xs s H0) (hbl : b < H0.size) (hbA : ¬ A b) (hS : va_S A H0 H locs) {i : Int32} (hin : vp_in i L) (hdg : decode cc pc = .ok (.iaload, 1))
    (kk : W p l e R s m args below meth c H locs cells slots Q (F0 m (pc + 1) ls (.int (xs (nt i)) :: rest))) : W p l e R s m args below meth c H locs cells slots Q (F0 m pc ls (.int i :: .ref b :: rest)) := va_sld hexec hb hX hbl hbA hS hin hdg kk
section MM
variable {p : Program} {l : Launch} {e : Env} {s : State} {m : MethodId} {args : Array Value} {below : List Frame} {meth : Method} {c : Code} {H : Heap} {locs : List Loc}
variable {g : gT} {ls : Array Slot}
theorem d_Law_law_16 : decode code 16 = .ok (.iconst 0, 1) := by decide +kernel
theorem d_Law_law_17 : decode code 17 = .ok (.istore_n 3, 1) := by decide +kernel
theorem d_Law_law_18 : decode code 18 = .ok (.iload_n 3, 1) := by decide +kernel
theorem d_Law_law_19 : decode code 19 = .ok (.aload_n 0, 1) := by decide +kernel
theorem d_Law_law_20 : decode code 20 = .ok (.arraylength, 1) := by decide +kernel
theorem d_Law_law_21 : decode code 21 = .ok (.iconst 4, 1) := by decide +kernel
theorem d_Law_law_22 : decode code 22 = .ok (.isub, 1) := by decide +kernel
theorem d_Law_law_23 : decode code 23 = .ok (.if_icmp .gt 477, 3) := by decide +kernel
theorem d_Law_law_26 : decode code 26 = .ok (.aload_n 0, 1) := by decide +kernel
theorem d_Law_law_27 : decode code 27 = .ok (.iload_n 3, 1) := by decide +kernel
theorem d_Law_law_28 : decode code 28 = .ok (.iaload, 1) := by decide +kernel
theorem d_Law_law_29 : decode code 29 = .ok (.bipush 15, 2) := by decide +kernel
theorem d_Law_law_31 : decode code 31 = .ok (.iand, 1) := by decide +kernel
theorem d_Law_law_32 : decode code 32 = .ok (.tableswitch 462 0 13 #[72, 115, 158, 181, 194, 207, 250, 273, 296, 345, 359, 383, 416, 439], 72) := by decide +kernel
theorem d_Law_law_104 : decode code 104 = .ok (.aload_n 1, 1) := by decide +kernel
theorem d_Law_law_105 : decode code 105 = .ok (.aload_n 0, 1) := by decide +kernel
theorem d_Law_law_106 : decode code 106 = .ok (.iload_n 3, 1) := by decide +kernel
theorem d_Law_law_107 : decode code 107 = .ok (.iconst 1, 1) := by decide +kernel
theorem d_Law_law_108 : decode code 108 = .ok (.iadd, 1) := by decide +kernel
theorem d_Law_law_109 : decode code 109 = .ok (.iaload, 1) := by decide +kernel
theorem d_Law_law_110 : decode code 110 = .ok (.aload_n 0, 1) := by decide +kernel
theorem d_Law_law_111 : decode code 111 = .ok (.iload_n 3, 1) := by decide +kernel
theorem d_Law_law_112 : decode code 112 = .ok (.iconst 2, 1) := by decide +kernel
theorem d_Law_law_113 : decode code 113 = .ok (.iadd, 1) := by decide +kernel
theorem d_Law_law_114 : decode code 114 = .ok (.iaload, 1) := by decide +kernel
theorem d_Law_law_115 : decode code 115 = .ok (.aload_n 0, 1) := by decide +kernel
theorem d_Law_law_116 : decode code 116 = .ok (.iload_n 3, 1) := by decide +kernel
theorem d_Law_law_117 : decode code 117 = .ok (.iconst 3, 1) := by decide +kernel
theorem d_Law_law_118 : decode code 118 = .ok (.iadd, 1) := by decide +kernel
theorem d_Law_law_119 : decode code 119 = .ok (.iaload, 1) := by decide +kernel
theorem d_Law_law_120 : decode code 120 = .ok (.invokevirtual 13, 3) := by decide +kernel
theorem d_Law_law_123 : decode code 123 = .ok (.aload_n 2, 1) := by decide +kernel
theorem d_Law_law_124 : decode code 124 = .ok (.aload_n 0, 1) := by decide +kernel
theorem d_Law_law_125 : decode code 125 = .ok (.iload_n 3, 1) := by decide +kernel
theorem d_Law_law_126 : decode code 126 = .ok (.iconst 1, 1) := by decide +kernel
theorem d_Law_law_127 : decode code 127 = .ok (.iadd, 1) := by decide +kernel
theorem d_Law_law_128 : decode code 128 = .ok (.iaload, 1) := by decide +kernel
theorem d_Law_law_129 : decode code 129 = .ok (.aload_n 0, 1) := by decide +kernel
theorem d_Law_law_130 : decode code 130 = .ok (.iload_n 3, 1) := by decide +kernel
theorem d_Law_law_131 : decode code 131 = .ok (.iconst 2, 1) := by decide +kernel
theorem d_Law_law_132 : decode code 132 = .ok (.iadd, 1) := by decide +kernel
theorem d_Law_law_133 : decode code 133 = .ok (.iaload, 1) := by decide +kernel
theorem d_Law_law_134 : decode code 134 = .ok (.aload_n 0, 1) := by decide +kernel
theorem d_Law_law_135 : decode code 135 = .ok (.iload_n 3, 1) := by decide +kernel
theorem d_Law_law_136 : decode code 136 = .ok (.iconst 3, 1) := by decide +kernel
theorem d_Law_law_137 : decode code 137 = .ok (.iadd, 1) := by decide +kernel
theorem d_Law_law_138 : decode code 138 = .ok (.iaload, 1) := by decide +kernel
theorem d_Law_law_139 : decode code 139 = .ok (.invokevirtual 17, 3) := by decide +kernel
theorem d_Law_law_142 : decode code 142 = .ok (.if_icmp .eq 352, 3) := by decide +kernel
theorem d_Law_law_145 : decode code 145 = .ok (.iconst 0, 1) := by decide +kernel
theorem d_Law_law_146 : decode code 146 = .ok (.ireturn, 1) := by decide +kernel
theorem d_Law_law_147 : decode code 147 = .ok (.aload_n 1, 1) := by decide +kernel
theorem d_Law_law_148 : decode code 148 = .ok (.aload_n 0, 1) := by decide +kernel
theorem d_Law_law_149 : decode code 149 = .ok (.iload_n 3, 1) := by decide +kernel
theorem d_Law_law_150 : decode code 150 = .ok (.iconst 1, 1) := by decide +kernel
theorem d_Law_law_151 : decode code 151 = .ok (.iadd, 1) := by decide +kernel
theorem d_Law_law_152 : decode code 152 = .ok (.iaload, 1) := by decide +kernel
theorem d_Law_law_153 : decode code 153 = .ok (.aload_n 0, 1) := by decide +kernel
theorem d_Law_law_154 : decode code 154 = .ok (.iload_n 3, 1) := by decide +kernel
theorem d_Law_law_155 : decode code 155 = .ok (.iconst 2, 1) := by decide +kernel
theorem d_Law_law_156 : decode code 156 = .ok (.iadd, 1) := by decide +kernel
theorem d_Law_law_157 : decode code 157 = .ok (.iaload, 1) := by decide +kernel
theorem d_Law_law_158 : decode code 158 = .ok (.aload_n 0, 1) := by decide +kernel
theorem d_Law_law_159 : decode code 159 = .ok (.iload_n 3, 1) := by decide +kernel
theorem d_Law_law_160 : decode code 160 = .ok (.iconst 3, 1) := by decide +kernel
theorem d_Law_law_161 : decode code 161 = .ok (.iadd, 1) := by decide +kernel
theorem d_Law_law_162 : decode code 162 = .ok (.iaload, 1) := by decide +kernel
theorem d_Law_law_163 : decode code 163 = .ok (.invokevirtual 18, 3) := by decide +kernel
theorem d_Law_law_166 : decode code 166 = .ok (.aload_n 2, 1) := by decide +kernel
theorem d_Law_law_167 : decode code 167 = .ok (.aload_n 0, 1) := by decide +kernel
theorem d_Law_law_168 : decode code 168 = .ok (.iload_n 3, 1) := by decide +kernel
theorem d_Law_law_169 : decode code 169 = .ok (.iconst 1, 1) := by decide +kernel
theorem d_Law_law_170 : decode code 170 = .ok (.iadd, 1) := by decide +kernel
theorem d_Law_law_171 : decode code 171 = .ok (.iaload, 1) := by decide +kernel
theorem d_Law_law_172 : decode code 172 = .ok (.aload_n 0, 1) := by decide +kernel
theorem d_Law_law_173 : decode code 173 = .ok (.iload_n 3, 1) := by decide +kernel
theorem d_Law_law_174 : decode code 174 = .ok (.iconst 2, 1) := by decide +kernel
theorem d_Law_law_175 : decode code 175 = .ok (.iadd, 1) := by decide +kernel
theorem d_Law_law_176 : decode code 176 = .ok (.iaload, 1) := by decide +kernel
theorem d_Law_law_177 : decode code 177 = .ok (.aload_n 0, 1) := by decide +kernel
theorem d_Law_law_178 : decode code 178 = .ok (.iload_n 3, 1) := by decide +kernel
theorem d_Law_law_179 : decode code 179 = .ok (.iconst 3, 1) := by decide +kernel
theorem d_Law_law_180 : decode code 180 = .ok (.iadd, 1) := by decide +kernel
theorem d_Law_law_181 : decode code 181 = .ok (.iaload, 1) := by decide +kernel
theorem d_Law_law_182 : decode code 182 = .ok (.invokevirtual 21, 3) := by decide +kernel
theorem d_Law_law_185 : decode code 185 = .ok (.if_icmp .eq 309, 3) := by decide +kernel
theorem d_Law_law_188 : decode code 188 = .ok (.iconst 0, 1) := by decide +kernel
theorem d_Law_law_189 : decode code 189 = .ok (.ireturn, 1) := by decide +kernel
theorem d_Law_law_190 : decode code 190 = .ok (.aload_n 1, 1) := by decide +kernel
theorem d_Law_law_191 : decode code 191 = .ok (.aload_n 0, 1) := by decide +kernel
theorem d_Law_law_192 : decode code 192 = .ok (.iload_n 3, 1) := by decide +kernel
theorem d_Law_law_193 : decode code 193 = .ok (.iconst 1, 1) := by decide +kernel
theorem d_Law_law_194 : decode code 194 = .ok (.iadd, 1) := by decide +kernel
theorem d_Law_law_195 : decode code 195 = .ok (.iaload, 1) := by decide +kernel
theorem d_Law_law_196 : decode code 196 = .ok (.invokevirtual 22, 3) := by decide +kernel
theorem d_Law_law_199 : decode code 199 = .ok (.aload_n 2, 1) := by decide +kernel
theorem d_Law_law_200 : decode code 200 = .ok (.aload_n 0, 1) := by decide +kernel
theorem d_Law_law_201 : decode code 201 = .ok (.iload_n 3, 1) := by decide +kernel
theorem d_Law_law_202 : decode code 202 = .ok (.iconst 1, 1) := by decide +kernel
theorem d_Law_law_203 : decode code 203 = .ok (.iadd, 1) := by decide +kernel
theorem d_Law_law_204 : decode code 204 = .ok (.iaload, 1) := by decide +kernel
theorem d_Law_law_205 : decode code 205 = .ok (.invokevirtual 26, 3) := by decide +kernel
theorem d_Law_law_208 : decode code 208 = .ok (.if_icmp .eq 286, 3) := by decide +kernel
theorem d_Law_law_211 : decode code 211 = .ok (.iconst 0, 1) := by decide +kernel
theorem d_Law_law_212 : decode code 212 = .ok (.ireturn, 1) := by decide +kernel
theorem d_Law_law_213 : decode code 213 = .ok (.aload_n 1, 1) := by decide +kernel
theorem d_Law_law_214 : decode code 214 = .ok (.invokevirtual 27, 3) := by decide +kernel
theorem d_Law_law_217 : decode code 217 = .ok (.aload_n 2, 1) := by decide +kernel
theorem d_Law_law_218 : decode code 218 = .ok (.invokevirtual 31, 3) := by decide +kernel
theorem d_Law_law_221 : decode code 221 = .ok (.if_icmp .eq 273, 3) := by decide +kernel
theorem d_Law_law_224 : decode code 224 = .ok (.iconst 0, 1) := by decide +kernel
theorem d_Law_law_225 : decode code 225 = .ok (.ireturn, 1) := by decide +kernel
theorem d_Law_law_226 : decode code 226 = .ok (.aload_n 1, 1) := by decide +kernel
theorem d_Law_law_227 : decode code 227 = .ok (.invokevirtual 32, 3) := by decide +kernel
theorem d_Law_law_230 : decode code 230 = .ok (.aload_n 2, 1) := by decide +kernel
theorem d_Law_law_231 : decode code 231 = .ok (.invokevirtual 35, 3) := by decide +kernel
theorem d_Law_law_234 : decode code 234 = .ok (.if_icmp .eq 260, 3) := by decide +kernel
theorem d_Law_law_237 : decode code 237 = .ok (.iconst 0, 1) := by decide +kernel
theorem d_Law_law_238 : decode code 238 = .ok (.ireturn, 1) := by decide +kernel
theorem d_Law_law_239 : decode code 239 = .ok (.aload_n 1, 1) := by decide +kernel
theorem d_Law_law_240 : decode code 240 = .ok (.aload_n 0, 1) := by decide +kernel
theorem d_Law_law_241 : decode code 241 = .ok (.iload_n 3, 1) := by decide +kernel
theorem d_Law_law_242 : decode code 242 = .ok (.iconst 1, 1) := by decide +kernel
theorem d_Law_law_243 : decode code 243 = .ok (.iadd, 1) := by decide +kernel
theorem d_Law_law_244 : decode code 244 = .ok (.iaload, 1) := by decide +kernel
theorem d_Law_law_245 : decode code 245 = .ok (.aload_n 0, 1) := by decide +kernel
theorem d_Law_law_246 : decode code 246 = .ok (.iload_n 3, 1) := by decide +kernel
theorem d_Law_law_247 : decode code 247 = .ok (.iconst 2, 1) := by decide +kernel
theorem d_Law_law_248 : decode code 248 = .ok (.iadd, 1) := by decide +kernel
theorem d_Law_law_249 : decode code 249 = .ok (.iaload, 1) := by decide +kernel
theorem d_Law_law_250 : decode code 250 = .ok (.aload_n 0, 1) := by decide +kernel
theorem d_Law_law_251 : decode code 251 = .ok (.iload_n 3, 1) := by decide +kernel
theorem d_Law_law_252 : decode code 252 = .ok (.iconst 3, 1) := by decide +kernel
theorem d_Law_law_253 : decode code 253 = .ok (.iadd, 1) := by decide +kernel
theorem d_Law_law_254 : decode code 254 = .ok (.iaload, 1) := by decide +kernel
theorem d_Law_law_255 : decode code 255 = .ok (.invokevirtual 36, 3) := by decide +kernel
theorem d_Law_law_258 : decode code 258 = .ok (.aload_n 2, 1) := by decide +kernel
theorem d_Law_law_259 : decode code 259 = .ok (.aload_n 0, 1) := by decide +kernel
theorem d_Law_law_260 : decode code 260 = .ok (.iload_n 3, 1) := by decide +kernel
theorem d_Law_law_261 : decode code 261 = .ok (.iconst 1, 1) := by decide +kernel
theorem d_Law_law_262 : decode code 262 = .ok (.iadd, 1) := by decide +kernel
theorem d_Law_law_263 : decode code 263 = .ok (.iaload, 1) := by decide +kernel
theorem d_Law_law_264 : decode code 264 = .ok (.aload_n 0, 1) := by decide +kernel
theorem d_Law_law_265 : decode code 265 = .ok (.iload_n 3, 1) := by decide +kernel
theorem d_Law_law_266 : decode code 266 = .ok (.iconst 2, 1) := by decide +kernel
theorem d_Law_law_267 : decode code 267 = .ok (.iadd, 1) := by decide +kernel
theorem d_Law_law_268 : decode code 268 = .ok (.iaload, 1) := by decide +kernel
theorem d_Law_law_269 : decode code 269 = .ok (.aload_n 0, 1) := by decide +kernel
theorem d_Law_law_270 : decode code 270 = .ok (.iload_n 3, 1) := by decide +kernel
theorem d_Law_law_271 : decode code 271 = .ok (.iconst 3, 1) := by decide +kernel
theorem d_Law_law_272 : decode code 272 = .ok (.iadd, 1) := by decide +kernel
theorem d_Law_law_273 : decode code 273 = .ok (.iaload, 1) := by decide +kernel
theorem d_Law_law_274 : decode code 274 = .ok (.invokevirtual 39, 3) := by decide +kernel
theorem d_Law_law_277 : decode code 277 = .ok (.if_icmp .eq 217, 3) := by decide +kernel
theorem d_Law_law_280 : decode code 280 = .ok (.iconst 0, 1) := by decide +kernel
theorem d_Law_law_281 : decode code 281 = .ok (.ireturn, 1) := by decide +kernel
theorem d_Law_law_282 : decode code 282 = .ok (.aload_n 1, 1) := by decide +kernel
theorem d_Law_law_283 : decode code 283 = .ok (.aload_n 0, 1) := by decide +kernel
theorem d_Law_law_284 : decode code 284 = .ok (.iload_n 3, 1) := by decide +kernel
theorem d_Law_law_285 : decode code 285 = .ok (.iconst 1, 1) := by decide +kernel
theorem d_Law_law_286 : decode code 286 = .ok (.iadd, 1) := by decide +kernel
theorem d_Law_law_287 : decode code 287 = .ok (.iaload, 1) := by decide +kernel
theorem d_Law_law_288 : decode code 288 = .ok (.invokevirtual 40, 3) := by decide +kernel
theorem d_Law_law_291 : decode code 291 = .ok (.aload_n 2, 1) := by decide +kernel
theorem d_Law_law_292 : decode code 292 = .ok (.aload_n 0, 1) := by decide +kernel
theorem d_Law_law_293 : decode code 293 = .ok (.iload_n 3, 1) := by decide +kernel
theorem d_Law_law_294 : decode code 294 = .ok (.iconst 1, 1) := by decide +kernel
theorem d_Law_law_295 : decode code 295 = .ok (.iadd, 1) := by decide +kernel
theorem d_Law_law_296 : decode code 296 = .ok (.iaload, 1) := by decide +kernel
theorem d_Law_law_297 : decode code 297 = .ok (.invokevirtual 43, 3) := by decide +kernel
theorem d_Law_law_300 : decode code 300 = .ok (.if_icmp .eq 194, 3) := by decide +kernel
theorem d_Law_law_303 : decode code 303 = .ok (.iconst 0, 1) := by decide +kernel
theorem d_Law_law_304 : decode code 304 = .ok (.ireturn, 1) := by decide +kernel
theorem d_Law_law_305 : decode code 305 = .ok (.aload_n 1, 1) := by decide +kernel
theorem d_Law_law_306 : decode code 306 = .ok (.aload_n 0, 1) := by decide +kernel
theorem d_Law_law_307 : decode code 307 = .ok (.iload_n 3, 1) := by decide +kernel
theorem d_Law_law_308 : decode code 308 = .ok (.iconst 1, 1) := by decide +kernel
theorem d_Law_law_309 : decode code 309 = .ok (.iadd, 1) := by decide +kernel
theorem d_Law_law_310 : decode code 310 = .ok (.iaload, 1) := by decide +kernel
theorem d_Law_law_311 : decode code 311 = .ok (.invokevirtual 44, 3) := by decide +kernel
theorem d_Law_law_314 : decode code 314 = .ok (.aload_n 2, 1) := by decide +kernel
theorem d_Law_law_315 : decode code 315 = .ok (.aload_n 0, 1) := by decide +kernel
theorem d_Law_law_316 : decode code 316 = .ok (.iload_n 3, 1) := by decide +kernel
theorem d_Law_law_317 : decode code 317 = .ok (.iconst 1, 1) := by decide +kernel
theorem d_Law_law_318 : decode code 318 = .ok (.iadd, 1) := by decide +kernel
theorem d_Law_law_319 : decode code 319 = .ok (.iaload, 1) := by decide +kernel
theorem d_Law_law_320 : decode code 320 = .ok (.invokevirtual 47, 3) := by decide +kernel
theorem d_Law_law_323 : decode code 323 = .ok (.if_icmp .eq 171, 3) := by decide +kernel
theorem d_Law_law_326 : decode code 326 = .ok (.iconst 0, 1) := by decide +kernel
theorem d_Law_law_327 : decode code 327 = .ok (.ireturn, 1) := by decide +kernel
theorem d_Law_law_328 : decode code 328 = .ok (.aload_n 1, 1) := by decide +kernel
theorem d_Law_law_329 : decode code 329 = .ok (.aload_n 0, 1) := by decide +kernel
theorem d_Law_law_330 : decode code 330 = .ok (.iload_n 3, 1) := by decide +kernel
theorem d_Law_law_331 : decode code 331 = .ok (.iconst 1, 1) := by decide +kernel
theorem d_Law_law_332 : decode code 332 = .ok (.iadd, 1) := by decide +kernel
theorem d_Law_law_333 : decode code 333 = .ok (.iaload, 1) := by decide +kernel
theorem d_Law_law_334 : decode code 334 = .ok (.aload_n 0, 1) := by decide +kernel
theorem d_Law_law_335 : decode code 335 = .ok (.iload_n 3, 1) := by decide +kernel
theorem d_Law_law_336 : decode code 336 = .ok (.iconst 2, 1) := by decide +kernel
theorem d_Law_law_337 : decode code 337 = .ok (.iadd, 1) := by decide +kernel
theorem d_Law_law_338 : decode code 338 = .ok (.iaload, 1) := by decide +kernel
theorem d_Law_law_339 : decode code 339 = .ok (.ifCond .eq 7, 3) := by decide +kernel
theorem d_Law_law_342 : decode code 342 = .ok (.iconst 1, 1) := by decide +kernel
theorem d_Law_law_343 : decode code 343 = .ok (.goto 4, 3) := by decide +kernel
theorem d_Law_law_346 : decode code 346 = .ok (.iconst 0, 1) := by decide +kernel
theorem d_Law_law_347 : decode code 347 = .ok (.invokevirtual 48, 3) := by decide +kernel
theorem d_Law_law_350 : decode code 350 = .ok (.aload_n 2, 1) := by decide +kernel
theorem d_Law_law_351 : decode code 351 = .ok (.aload_n 0, 1) := by decide +kernel
theorem d_Law_law_352 : decode code 352 = .ok (.iload_n 3, 1) := by decide +kernel
theorem d_Law_law_353 : decode code 353 = .ok (.iconst 1, 1) := by decide +kernel
theorem d_Law_law_354 : decode code 354 = .ok (.iadd, 1) := by decide +kernel
theorem d_Law_law_355 : decode code 355 = .ok (.iaload, 1) := by decide +kernel
theorem d_Law_law_356 : decode code 356 = .ok (.aload_n 0, 1) := by decide +kernel
theorem d_Law_law_357 : decode code 357 = .ok (.iload_n 3, 1) := by decide +kernel
theorem d_Law_law_358 : decode code 358 = .ok (.iconst 2, 1) := by decide +kernel
theorem d_Law_law_359 : decode code 359 = .ok (.iadd, 1) := by decide +kernel
theorem d_Law_law_360 : decode code 360 = .ok (.iaload, 1) := by decide +kernel
theorem d_Law_law_361 : decode code 361 = .ok (.ifCond .eq 7, 3) := by decide +kernel
theorem d_Law_law_364 : decode code 364 = .ok (.iconst 1, 1) := by decide +kernel
theorem d_Law_law_365 : decode code 365 = .ok (.goto 4, 3) := by decide +kernel
theorem d_Law_law_368 : decode code 368 = .ok (.iconst 0, 1) := by decide +kernel
theorem d_Law_law_369 : decode code 369 = .ok (.invokevirtual 52, 3) := by decide +kernel
theorem d_Law_law_372 : decode code 372 = .ok (.if_icmp .eq 122, 3) := by decide +kernel
theorem d_Law_law_375 : decode code 375 = .ok (.iconst 0, 1) := by decide +kernel
theorem d_Law_law_376 : decode code 376 = .ok (.ireturn, 1) := by decide +kernel
theorem d_Law_law_377 : decode code 377 = .ok (.aload_n 1, 1) := by decide +kernel
theorem d_Law_law_378 : decode code 378 = .ok (.invokevirtual 53, 3) := by decide +kernel
theorem d_Law_law_381 : decode code 381 = .ok (.aload_n 2, 1) := by decide +kernel
theorem d_Law_law_382 : decode code 382 = .ok (.invokevirtual 57, 3) := by decide +kernel
theorem d_Law_law_385 : decode code 385 = .ok (.lcmp, 1) := by decide +kernel
theorem d_Law_law_386 : decode code 386 = .ok (.ifCond .eq 108, 3) := by decide +kernel
theorem d_Law_law_389 : decode code 389 = .ok (.iconst 0, 1) := by decide +kernel
theorem d_Law_law_390 : decode code 390 = .ok (.ireturn, 1) := by decide +kernel
theorem d_Law_law_391 : decode code 391 = .ok (.aload_n 1, 1) := by decide +kernel
theorem d_Law_law_392 : decode code 392 = .ok (.aload_n 0, 1) := by decide +kernel
theorem d_Law_law_393 : decode code 393 = .ok (.iload_n 3, 1) := by decide +kernel
theorem d_Law_law_394 : decode code 394 = .ok (.iconst 1, 1) := by decide +kernel
theorem d_Law_law_395 : decode code 395 = .ok (.iadd, 1) := by decide +kernel
theorem d_Law_law_396 : decode code 396 = .ok (.iaload, 1) := by decide +kernel
theorem d_Law_law_397 : decode code 397 = .ok (.invokevirtual 58, 3) := by decide +kernel
theorem d_Law_law_400 : decode code 400 = .ok (.aload_n 2, 1) := by decide +kernel
theorem d_Law_law_401 : decode code 401 = .ok (.aload_n 0, 1) := by decide +kernel
theorem d_Law_law_402 : decode code 402 = .ok (.iload_n 3, 1) := by decide +kernel
theorem d_Law_law_403 : decode code 403 = .ok (.iconst 1, 1) := by decide +kernel
theorem d_Law_law_404 : decode code 404 = .ok (.iadd, 1) := by decide +kernel
theorem d_Law_law_405 : decode code 405 = .ok (.iaload, 1) := by decide +kernel
theorem d_Law_law_406 : decode code 406 = .ok (.invokevirtual 62, 3) := by decide +kernel
theorem d_Law_law_409 : decode code 409 = .ok (.lcmp, 1) := by decide +kernel
theorem d_Law_law_410 : decode code 410 = .ok (.ifCond .eq 84, 3) := by decide +kernel
theorem d_Law_law_413 : decode code 413 = .ok (.iconst 0, 1) := by decide +kernel
theorem d_Law_law_414 : decode code 414 = .ok (.ireturn, 1) := by decide +kernel
theorem d_Law_law_415 : decode code 415 = .ok (.aload_n 1, 1) := by decide +kernel
theorem d_Law_law_416 : decode code 416 = .ok (.aload_n 0, 1) := by decide +kernel
theorem d_Law_law_417 : decode code 417 = .ok (.iload_n 3, 1) := by decide +kernel
theorem d_Law_law_418 : decode code 418 = .ok (.iconst 1, 1) := by decide +kernel
theorem d_Law_law_419 : decode code 419 = .ok (.iadd, 1) := by decide +kernel
theorem d_Law_law_420 : decode code 420 = .ok (.iaload, 1) := by decide +kernel
theorem d_Law_law_421 : decode code 421 = .ok (.aload_n 0, 1) := by decide +kernel
theorem d_Law_law_422 : decode code 422 = .ok (.iload_n 3, 1) := by decide +kernel
theorem d_Law_law_423 : decode code 423 = .ok (.iconst 2, 1) := by decide +kernel
theorem d_Law_law_424 : decode code 424 = .ok (.iadd, 1) := by decide +kernel
theorem d_Law_law_425 : decode code 425 = .ok (.iaload, 1) := by decide +kernel
theorem d_Law_law_426 : decode code 426 = .ok (.invokevirtual 63, 3) := by decide +kernel
theorem d_Law_law_429 : decode code 429 = .ok (.aload_n 2, 1) := by decide +kernel
theorem d_Law_law_430 : decode code 430 = .ok (.aload_n 0, 1) := by decide +kernel
theorem d_Law_law_431 : decode code 431 = .ok (.iload_n 3, 1) := by decide +kernel
theorem d_Law_law_432 : decode code 432 = .ok (.iconst 1, 1) := by decide +kernel
theorem d_Law_law_433 : decode code 433 = .ok (.iadd, 1) := by decide +kernel
theorem d_Law_law_434 : decode code 434 = .ok (.iaload, 1) := by decide +kernel
theorem d_Law_law_435 : decode code 435 = .ok (.aload_n 0, 1) := by decide +kernel
theorem d_Law_law_436 : decode code 436 = .ok (.iload_n 3, 1) := by decide +kernel
theorem d_Law_law_437 : decode code 437 = .ok (.iconst 2, 1) := by decide +kernel
theorem d_Law_law_438 : decode code 438 = .ok (.iadd, 1) := by decide +kernel
theorem d_Law_law_439 : decode code 439 = .ok (.iaload, 1) := by decide +kernel
theorem d_Law_law_440 : decode code 440 = .ok (.invokevirtual 67, 3) := by decide +kernel
theorem d_Law_law_443 : decode code 443 = .ok (.if_icmp .eq 51, 3) := by decide +kernel
theorem d_Law_law_446 : decode code 446 = .ok (.iconst 0, 1) := by decide +kernel
theorem d_Law_law_447 : decode code 447 = .ok (.ireturn, 1) := by decide +kernel
theorem d_Law_law_448 : decode code 448 = .ok (.aload_n 1, 1) := by decide +kernel
theorem d_Law_law_449 : decode code 449 = .ok (.aload_n 0, 1) := by decide +kernel
theorem d_Law_law_450 : decode code 450 = .ok (.iload_n 3, 1) := by decide +kernel
theorem d_Law_law_451 : decode code 451 = .ok (.iconst 1, 1) := by decide +kernel
theorem d_Law_law_452 : decode code 452 = .ok (.iadd, 1) := by decide +kernel
theorem d_Law_law_453 : decode code 453 = .ok (.iaload, 1) := by decide +kernel
theorem d_Law_law_454 : decode code 454 = .ok (.invokevirtual 68, 3) := by decide +kernel
theorem d_Law_law_457 : decode code 457 = .ok (.aload_n 2, 1) := by decide +kernel
theorem d_Law_law_458 : decode code 458 = .ok (.aload_n 0, 1) := by decide +kernel
theorem d_Law_law_459 : decode code 459 = .ok (.iload_n 3, 1) := by decide +kernel
theorem d_Law_law_460 : decode code 460 = .ok (.iconst 1, 1) := by decide +kernel
theorem d_Law_law_461 : decode code 461 = .ok (.iadd, 1) := by decide +kernel
theorem d_Law_law_462 : decode code 462 = .ok (.iaload, 1) := by decide +kernel
theorem d_Law_law_463 : decode code 463 = .ok (.invokevirtual 71, 3) := by decide +kernel
theorem d_Law_law_466 : decode code 466 = .ok (.if_icmp .eq 28, 3) := by decide +kernel
theorem d_Law_law_469 : decode code 469 = .ok (.iconst 0, 1) := by decide +kernel
theorem d_Law_law_470 : decode code 470 = .ok (.ireturn, 1) := by decide +kernel
theorem d_Law_law_471 : decode code 471 = .ok (.aload_n 1, 1) := by decide +kernel
theorem d_Law_law_472 : decode code 472 = .ok (.aload_n 0, 1) := by decide +kernel
theorem d_Law_law_473 : decode code 473 = .ok (.iload_n 3, 1) := by decide +kernel
theorem d_Law_law_474 : decode code 474 = .ok (.iconst 1, 1) := by decide +kernel
theorem d_Law_law_475 : decode code 475 = .ok (.iadd, 1) := by decide +kernel
theorem d_Law_law_476 : decode code 476 = .ok (.iaload, 1) := by decide +kernel
theorem d_Law_law_477 : decode code 477 = .ok (.invokevirtual 72, 3) := by decide +kernel
theorem d_Law_law_480 : decode code 480 = .ok (.aload_n 2, 1) := by decide +kernel
theorem d_Law_law_481 : decode code 481 = .ok (.aload_n 0, 1) := by decide +kernel
theorem d_Law_law_482 : decode code 482 = .ok (.iload_n 3, 1) := by decide +kernel
theorem d_Law_law_483 : decode code 483 = .ok (.iconst 1, 1) := by decide +kernel
theorem d_Law_law_484 : decode code 484 = .ok (.iadd, 1) := by decide +kernel
theorem d_Law_law_485 : decode code 485 = .ok (.iaload, 1) := by decide +kernel
theorem d_Law_law_486 : decode code 486 = .ok (.invokevirtual 75, 3) := by decide +kernel
theorem d_Law_law_489 : decode code 489 = .ok (.if_icmp .eq 5, 3) := by decide +kernel
theorem d_Law_law_492 : decode code 492 = .ok (.iconst 0, 1) := by decide +kernel
theorem d_Law_law_493 : decode code 493 = .ok (.ireturn, 1) := by decide +kernel
theorem d_Law_law_494 : decode code 494 = .ok (.iinc 3 4, 3) := by decide +kernel
theorem d_Law_law_497 : decode code 497 = .ok (.goto (-479), 3) := by decide +kernel
theorem d_Law_law_500 : decode code 500 = .ok (.iconst 1, 1) := by decide +kernel
theorem d_Law_law_501 : decode code 501 = .ok (.ireturn, 1) := by decide +kernel
def p_Law_law_b494 (xs : Nat → Int32) (L : Nat) (hd : vS → Int32 → Prop) (V : vS) (x3 : Int32) : Prop := ∀ y1 : Int32, y1 = x3 + 4 → (hd V y1)
set_option maxRecDepth 100000 in
set_option maxHeartbeats 8000000 in
theorem t_Law_law_b494 {xs : Nat → Int32} {L b : Nat} (X : cx g p s m meth c #[Value.ref b] R_Law code 4 ret) (hX : va_X b L xs s s.heap) (hbl : b < s.heap.size) (hlow : ∀ k, k < 49 → s.heap.size ≤ ga g k) {hd : vS → Int32 → Prop} (ih : ∀ (V : vS) (x3 : Int32), hd V x3 → ∀ (H : Heap) (locs : List Loc) (ls : Array Slot), va_P g.1 vcl (cw g V) H → va_S (gA g) s.heap H locs → lv_has ls 4 [(0, .ref b), (1, .ref (ga g 0)), (2, .ref (ga g 34)), (3, .int x3)] → W p l e room_1 s m #[Value.ref b] below meth c H locs 100 2000 (lw_Z below #[Value.ref b] s) (F0 m 18 ls [])) {V : vS} {x3 : Int32} (h : p_Law_law_b494 xs L hd V x3) (hP : va_P g.1 vcl (cw g V) H) (hS : va_S (gA g) s.heap H locs) (hl : lv_has ls 4 [(0, .ref b), (1, .ref (ga g 0)), (2, .ref (ga g 34)), (3, .int x3)]) : W p l e room_1 s m #[Value.ref b] below meth c H locs 100 2000 (lw_Z below #[Value.ref b] s) (F0 m 494 ls []) := by
  obtain ⟨hx, hb, hret, -, hown, hts, hlocks, -, hz, hG⟩ := id X
  have hbA : ¬ gA g b := fun ⟨k0, hk0, e0⟩ => by have := hlow k0 hk0; omega
  unfold p_Law_law_b494 at h
  obtain ⟨y1, ey1⟩ : ∃ z : Int32, z = x3 + 4 := ⟨_, rfl⟩
  have h := h y1 ey1
  refine lv_iinc (v := y1) (lv' := [(3, .int y1), (0, .ref b), (1, .ref (ga g 0)), (2, .ref (ga g 34))]) hx hb d_Law_law_494 hl (k := 3) rfl (by rw [ey1]; rfl) (by decide) rfl (fun ls hl => ?_)
  refine lv_goto (tgt := 18) hx hb d_Law_law_497 (by decide) ?_
  exact ih V y1 h _ _ _ hP hS (lv_sub hl [1, 2, 3, 0] rfl)
def p_Law_law_b369 (xs : Nat → Int32) (L : Nat) (hd : vS → Int32 → Prop) (V : vS) (x3 : Int32) (s0 : Int32) (s2 : Int32) (s3 : Int32) : Prop := p_Mo_grant (fun r2 V1 => (s0 = r2 → (p_Law_law_b494 xs L hd V1 x3)) ∧ (¬ s0 = r2 → (False))) V s2 s3
set_option maxRecDepth 100000 in
set_option maxHeartbeats 8000000 in
theorem t_Law_law_b369 {xs : Nat → Int32} {L b : Nat} (X : cx g p s m meth c #[Value.ref b] R_Law code 4 ret) (hX : va_X b L xs s s.heap) (hbl : b < s.heap.size) (hlow : ∀ k, k < 49 → s.heap.size ≤ ga g k) {hd : vS → Int32 → Prop} (ih : ∀ (V : vS) (x3 : Int32), hd V x3 → ∀ (H : Heap) (locs : List Loc) (ls : Array Slot), va_P g.1 vcl (cw g V) H → va_S (gA g) s.heap H locs → lv_has ls 4 [(0, .ref b), (1, .ref (ga g 0)), (2, .ref (ga g 34)), (3, .int x3)] → W p l e room_1 s m #[Value.ref b] below meth c H locs 100 2000 (lw_Z below #[Value.ref b] s) (F0 m 18 ls [])) {V : vS} {x3 : Int32} {s0 : Int32} {s2 : Int32} {s3 : Int32} (h : p_Law_law_b369 xs L hd V x3 s0 s2 s3) (hP : va_P g.1 vcl (cw g V) H) (hS : va_S (gA g) s.heap H locs) (hl : lv_has ls 4 [(0, .ref b), (1, .ref (ga g 0)), (2, .ref (ga g 34)), (3, .int x3)]) : W p l e room_1 s m #[Value.ref b] below meth c H locs 100 2000 (lw_Z below #[Value.ref b] s) (F0 m 369 ls [.int s3, .int s2, .ref (ga g 34), .int s0]) := by
  obtain ⟨hx, hb, hret, -, hown, hts, hlocks, -, hz, hG⟩ := id X
  have hbA : ¬ gA g b := fun ⟨k0, hk0, e0⟩ => by have := hlow k0 hk0; omega
  unfold p_Law_law_b369 at h
  refine rw_cVi (rest := [.int s0]) X hP hS yv_Mo_grant isO_Mo (c_Mo_grant hG h) q_639 ⟨rfl, rfl, by decide, by decide⟩ rfl rfl hl.1 (Nat.le_of_ble_eq_true rfl) ⟨by decide, by decide⟩ d_Law_law_369 (fun r2 V1 H locs h hP hS => ?_)
  refine lv_icmp_eq (tgt := 494) hx hb d_Law_law_372 (by decide) (fun c4 => ?_) (fun c4 => ?_)
  · have h := h.1 c4
    exact t_Law_law_b494 X hX hbl hlow ih h hP hS (lv_sub hl [0, 1, 2, 3] rfl)
  · have h := h.2 c4
    refine lv_iconst (v := 0) hx hb d_Law_law_375 (by decide) ?_
    exact h.elim
def p_Law_law_b347 (xs : Nat → Int32) (L : Nat) (hd : vS → Int32 → Prop) (V : vS) (x3 : Int32) (s1 : Int32) (s2 : Int32) : Prop := p_PR_grant (fun r2 V1 => vp_in (x3 + 1) L ∧ (vp_in (x3 + 2) L ∧ (((xs (nt (x3 + 2))) = 0 → (p_Law_law_b369 xs L hd V1 x3 r2 (xs (nt (x3 + 1))) 0)) ∧ (¬ (xs (nt (x3 + 2))) = 0 → (p_Law_law_b369 xs L hd V1 x3 r2 (xs (nt (x3 + 1))) 1))))) V s1 s2
set_option maxRecDepth 100000 in
set_option maxHeartbeats 8000000 in
theorem t_Law_law_b347 {xs : Nat → Int32} {L b : Nat} (X : cx g p s m meth c #[Value.ref b] R_Law code 4 ret) (hX : va_X b L xs s s.heap) (hbl : b < s.heap.size) (hlow : ∀ k, k < 49 → s.heap.size ≤ ga g k) {hd : vS → Int32 → Prop} (ih : ∀ (V : vS) (x3 : Int32), hd V x3 → ∀ (H : Heap) (locs : List Loc) (ls : Array Slot), va_P g.1 vcl (cw g V) H → va_S (gA g) s.heap H locs → lv_has ls 4 [(0, .ref b), (1, .ref (ga g 0)), (2, .ref (ga g 34)), (3, .int x3)] → W p l e room_1 s m #[Value.ref b] below meth c H locs 100 2000 (lw_Z below #[Value.ref b] s) (F0 m 18 ls [])) {V : vS} {x3 : Int32} {s1 : Int32} {s2 : Int32} (h : p_Law_law_b347 xs L hd V x3 s1 s2) (hP : va_P g.1 vcl (cw g V) H) (hS : va_S (gA g) s.heap H locs) (hl : lv_has ls 4 [(0, .ref b), (1, .ref (ga g 0)), (2, .ref (ga g 34)), (3, .int x3)]) : W p l e room_1 s m #[Value.ref b] below meth c H locs 100 2000 (lw_Z below #[Value.ref b] s) (F0 m 347 ls [.int s2, .int s1, .ref (ga g 0)]) := by
  obtain ⟨hx, hb, hret, -, hown, hts, hlocks, -, hz, hG⟩ := id X
  have hbA : ¬ gA g b := fun ⟨k0, hk0, e0⟩ => by have := hlow k0 hk0; omega
  unfold p_Law_law_b347 at h
  refine rw_cVi (rest := []) X hP hS yv_PR_grant isO_PR (c_PR_grant hG h) q_414 ⟨rfl, rfl, by decide, by decide⟩ rfl rfl hl.1 (Nat.le_of_ble_eq_true rfl) ⟨by decide, by decide⟩ d_Law_law_347 (fun r2 V1 H locs h hP hS => ?_)
  refine lv_aload_n hx hb d_Law_law_350 rfl (lv_at hl 2 rfl) ?_
  refine lv_aload_n hx hb d_Law_law_351 rfl (lv_at hl 0 rfl) ?_
  refine lv_iload_n hx hb d_Law_law_352 rfl (lv_at hl 3 rfl) ?_
  refine lv_iconst (v := 1) hx hb d_Law_law_353 (by decide) ?_
  refine lv_iadd hx hb d_Law_law_354 ?_
  obtain ⟨hi4, h⟩ := h
  refine rw_sld hx hb hX hbl hbA hS hi4 d_Law_law_355 ?_
  refine lv_aload_n hx hb d_Law_law_356 rfl (lv_at hl 0 rfl) ?_
  refine lv_iload_n hx hb d_Law_law_357 rfl (lv_at hl 3 rfl) ?_
  refine lv_iconst (v := 2) hx hb d_Law_law_358 (by decide) ?_
  refine lv_iadd hx hb d_Law_law_359 ?_
  obtain ⟨hi5, h⟩ := h
  refine rw_sld hx hb hX hbl hbA hS hi5 d_Law_law_360 ?_
  refine lv_if_eq (tgt := 368) hx hb d_Law_law_361 (by decide) (fun c6 => ?_) (fun c6 => ?_)
  · have h := h.1 c6
    refine lv_iconst (v := 0) hx hb d_Law_law_368 (by decide) ?_
    exact t_Law_law_b369 X hX hbl hlow ih h hP hS (lv_sub hl [0, 1, 2, 3] rfl)
  · have h := h.2 c6
    refine lv_iconst (v := 1) hx hb d_Law_law_364 (by decide) ?_
    refine lv_goto (tgt := 369) hx hb d_Law_law_365 (by decide) ?_
    exact t_Law_law_b369 X hX hbl hlow ih h hP hS (lv_sub hl [0, 1, 2, 3] rfl)
def p_Law_law_b18 (xs : Nat → Int32) (L : Nat) : Nat → vS → Int32 → Prop
  | 0, _, _ => False
  | n + 1, V, x3 => (((Int32.ofNat L) - 4) < x3 → (True)) ∧ (¬ ((Int32.ofNat L) - 4) < x3 → (vp_in x3 L ∧ ((((xs (nt x3)) &&& 15) = 0 → (vp_in (x3 + 1) L ∧ (vp_in (x3 + 2) L ∧ (vp_in (x3 + 3) L ∧ (p_PR_function (fun r8 V7 => vp_in (x3 + 1) L ∧ (vp_in (x3 + 2) L ∧ (vp_in (x3 + 3) L ∧ (p_Mo_function (fun r14 V13 => (r8 = r14 → (p_Law_law_b494 xs L (p_Law_law_b18 xs L n) V13 x3)) ∧ (¬ r8 = r14 → (False))) V7 (xs (nt (x3 + 1))) (xs (nt (x3 + 2))) (xs (nt (x3 + 3))))))) V (xs (nt (x3 + 1))) (xs (nt (x3 + 2))) (xs (nt (x3 + 3)))))))) ∧ (¬ ((xs (nt x3)) &&& 15) = 0 → ((((xs (nt x3)) &&& 15) = 1 → (vp_in (x3 + 1) L ∧ (vp_in (x3 + 2) L ∧ (vp_in (x3 + 3) L ∧ (p_PR_emit (fun r22 V21 => vp_in (x3 + 1) L ∧ (vp_in (x3 + 2) L ∧ (vp_in (x3 + 3) L ∧ (p_Mo_emit (fun r28 V27 => (r22 = r28 → (p_Law_law_b494 xs L (p_Law_law_b18 xs L n) V27 x3)) ∧ (¬ r22 = r28 → (False))) V21 (xs (nt (x3 + 1))) (xs (nt (x3 + 2))) (xs (nt (x3 + 3))))))) V (xs (nt (x3 + 1))) (xs (nt (x3 + 2))) (xs (nt (x3 + 3)))))))) ∧ (¬ ((xs (nt x3)) &&& 15) = 1 → ((((xs (nt x3)) &&& 15) = 2 → (vp_in (x3 + 1) L ∧ (p_PR_erase (fun r34 V33 => vp_in (x3 + 1) L ∧ (p_Mo_erase (fun r38 V37 => (r34 = r38 → (p_Law_law_b494 xs L (p_Law_law_b18 xs L n) V37 x3)) ∧ (¬ r34 = r38 → (False))) V33 (xs (nt (x3 + 1))))) V (xs (nt (x3 + 1)))))) ∧ (¬ ((xs (nt x3)) &&& 15) = 2 → ((((xs (nt x3)) &&& 15) = 3 → (p_PR_check (fun r43 V42 => p_Mo_check (fun r46 V45 => (r43 = r46 → (p_Law_law_b494 xs L (p_Law_law_b18 xs L n) V45 x3)) ∧ (¬ r43 = r46 → (False))) V42) V)) ∧ (¬ ((xs (nt x3)) &&& 15) = 3 → ((((xs (nt x3)) &&& 15) = 4 → (p_PR_fault (fun r51 V50 => p_Mo_fault (fun r54 V53 => (r51 = r54 → (p_Law_law_b494 xs L (p_Law_law_b18 xs L n) V53 x3)) ∧ (¬ r51 = r54 → (False))) V50) V)) ∧ (¬ ((xs (nt x3)) &&& 15) = 4 → ((((xs (nt x3)) &&& 15) = 5 → (vp_in (x3 + 1) L ∧ (vp_in (x3 + 2) L ∧ (vp_in (x3 + 3) L ∧ (p_PR_start (fun r62 V61 => vp_in (x3 + 1) L ∧ (vp_in (x3 + 2) L ∧ (vp_in (x3 + 3) L ∧ (p_Mo_start (fun r68 V67 => (r62 = r68 → (p_Law_law_b494 xs L (p_Law_law_b18 xs L n) V67 x3)) ∧ (¬ r62 = r68 → (False))) V61 (xs (nt (x3 + 1))) (xs (nt (x3 + 2))) (xs (nt (x3 + 3))))))) V (xs (nt (x3 + 1))) (xs (nt (x3 + 2))) (xs (nt (x3 + 3)))))))) ∧ (¬ ((xs (nt x3)) &&& 15) = 5 → ((((xs (nt x3)) &&& 15) = 6 → (vp_in (x3 + 1) L ∧ (p_PR_resume (fun r74 V73 => vp_in (x3 + 1) L ∧ (p_Mo_resume (fun r78 V77 => (r74 = r78 → (p_Law_law_b494 xs L (p_Law_law_b18 xs L n) V77 x3)) ∧ (¬ r74 = r78 → (False))) V73 (xs (nt (x3 + 1))))) V (xs (nt (x3 + 1)))))) ∧ (¬ ((xs (nt x3)) &&& 15) = 6 → ((((xs (nt x3)) &&& 15) = 7 → (vp_in (x3 + 1) L ∧ (p_PR_reply (fun r84 V83 => vp_in (x3 + 1) L ∧ (p_Mo_reply (fun r88 V87 => (r84 = r88 → (p_Law_law_b494 xs L (p_Law_law_b18 xs L n) V87 x3)) ∧ (¬ r84 = r88 → (False))) V83 (xs (nt (x3 + 1))))) V (xs (nt (x3 + 1)))))) ∧ (¬ ((xs (nt x3)) &&& 15) = 7 → ((((xs (nt x3)) &&& 15) = 8 → (vp_in (x3 + 1) L ∧ (vp_in (x3 + 2) L ∧ (((xs (nt (x3 + 2))) = 0 → (p_Law_law_b347 xs L (p_Law_law_b18 xs L n) V x3 (xs (nt (x3 + 1))) 0)) ∧ (¬ (xs (nt (x3 + 2))) = 0 → (p_Law_law_b347 xs L (p_Law_law_b18 xs L n) V x3 (xs (nt (x3 + 1))) 1)))))) ∧ (¬ ((xs (nt x3)) &&& 15) = 8 → ((((xs (nt x3)) &&& 15) = 9 → (p_PR_result (fun r97 V96 => p_Mo_result (fun r100 V99 => ((lg_cmp r97 r100) = 0 → (p_Law_law_b494 xs L (p_Law_law_b18 xs L n) V99 x3)) ∧ (¬ (lg_cmp r97 r100) = 0 → (False))) V96) V)) ∧ (¬ ((xs (nt x3)) &&& 15) = 9 → ((((xs (nt x3)) &&& 15) = 10 → (vp_in (x3 + 1) L ∧ (p_PR_memory (fun r106 V105 => vp_in (x3 + 1) L ∧ (p_Mo_memory (fun r110 V109 => ((lg_cmp r106 r110) = 0 → (p_Law_law_b494 xs L (p_Law_law_b18 xs L n) V109 x3)) ∧ (¬ (lg_cmp r106 r110) = 0 → (False))) V105 (xs (nt (x3 + 1))))) V (xs (nt (x3 + 1)))))) ∧ (¬ ((xs (nt x3)) &&& 15) = 10 → ((((xs (nt x3)) &&& 15) = 11 → (vp_in (x3 + 1) L ∧ (vp_in (x3 + 2) L ∧ (p_PR_poke (fun r117 V116 => vp_in (x3 + 1) L ∧ (vp_in (x3 + 2) L ∧ (p_Mo_poke (fun r122 V121 => (r117 = r122 → (p_Law_law_b494 xs L (p_Law_law_b18 xs L n) V121 x3)) ∧ (¬ r117 = r122 → (False))) V116 (xs (nt (x3 + 1))) (xs (nt (x3 + 2)))))) V (xs (nt (x3 + 1))) (xs (nt (x3 + 2))))))) ∧ (¬ ((xs (nt x3)) &&& 15) = 11 → ((((xs (nt x3)) &&& 15) = 12 → (vp_in (x3 + 1) L ∧ (p_PR_state (fun r128 V127 => vp_in (x3 + 1) L ∧ (p_Mo_state (fun r132 V131 => (r128 = r132 → (p_Law_law_b494 xs L (p_Law_law_b18 xs L n) V131 x3)) ∧ (¬ r128 = r132 → (False))) V127 (xs (nt (x3 + 1))))) V (xs (nt (x3 + 1)))))) ∧ (¬ ((xs (nt x3)) &&& 15) = 12 → ((((xs (nt x3)) &&& 15) = 13 → (vp_in (x3 + 1) L ∧ (p_PR_count (fun r138 V137 => vp_in (x3 + 1) L ∧ (p_Mo_count (fun r142 V141 => (r138 = r142 → (p_Law_law_b494 xs L (p_Law_law_b18 xs L n) V141 x3)) ∧ (¬ r138 = r142 → (False))) V137 (xs (nt (x3 + 1))))) V (xs (nt (x3 + 1)))))) ∧ (¬ ((xs (nt x3)) &&& 15) = 13 → (p_Law_law_b494 xs L (p_Law_law_b18 xs L n) V x3)))))))))))))))))))))))))))))))
set_option maxRecDepth 100000 in
set_option maxHeartbeats 8000000 in
theorem t_Law_law_b18 {xs : Nat → Int32} {L b : Nat} (X : cx g p s m meth c #[Value.ref b] R_Law code 4 ret) (hX : va_X b L xs s s.heap) (hbl : b < s.heap.size) (hlow : ∀ k, k < 49 → s.heap.size ≤ ga g k) : ∀ (n : Nat) (V : vS) (x3 : Int32), p_Law_law_b18 xs L n V x3 → ∀ (H : Heap) (locs : List Loc) (ls : Array Slot), va_P g.1 vcl (cw g V) H → va_S (gA g) s.heap H locs → lv_has ls 4 [(0, .ref b), (1, .ref (ga g 0)), (2, .ref (ga g 34)), (3, .int x3)] → W p l e room_1 s m #[Value.ref b] below meth c H locs 100 2000 (lw_Z below #[Value.ref b] s) (F0 m 18 ls []) := by
  obtain ⟨hx, hb, hret, -, hown, hts, hlocks, -, hz, hG⟩ := id X
  have hbA : ¬ gA g b := fun ⟨k0, hk0, e0⟩ => by have := hlow k0 hk0; omega
  intro n
  induction n with
  | zero =>
    intro V x3 h
    exact h.elim
  | succ n ih =>
    intro V x3 h H locs ls hP hS hl
    unfold p_Law_law_b18 at h
    refine lv_iload_n hx hb d_Law_law_18 rfl (lv_at hl 3 rfl) ?_
    refine lv_aload_n hx hb d_Law_law_19 rfl (lv_at hl 0 rfl) ?_
    refine va_slen hx hb hX hbl hbA hS d_Law_law_20 ?_
    refine lv_iconst (v := 4) hx hb d_Law_law_21 (by decide) ?_
    refine lv_isub hx hb d_Law_law_22 ?_
    refine lv_icmp_gt (tgt := 500) hx hb d_Law_law_23 (by decide) (fun c1 => ?_) (fun c1 => ?_)
    · have h := h.1 c1
      refine lv_iconst (v := 1) hx hb d_Law_law_500 (by decide) ?_
      refine va_forget (fun q hq => by obtain ⟨k0, hk0, e0⟩ := hS.2.2 q hq; rw [e0]; exact hlow k0 hk0) ?_
      refine W.widen (k := 600000) (n := 7302250) (by decide) (by decide) ?_
      exact lw_ret hx hb hret hlocks d_Law_law_501
    · have h := h.2 c1
      refine lv_aload_n hx hb d_Law_law_26 rfl (lv_at hl 0 rfl) ?_
      refine lv_iload_n hx hb d_Law_law_27 rfl (lv_at hl 3 rfl) ?_
      obtain ⟨hi2, h⟩ := h
      refine rw_sld hx hb hX hbl hbA hS hi2 d_Law_law_28 ?_
      refine lv_bipush (v := 15) hx hb d_Law_law_29 (by decide) ?_
      refine lv_iand hx hb d_Law_law_31 ?_
      by_cases c3 : ((xs (nt x3)) &&& 15) = 0
      · have h := h.1 c3
        refine lv_tableIn (off := 72) (tgt := 104) hx hb d_Law_law_32 (by rw [c3]; decide) (by rw [c3]; decide) (by rw [c3]; rfl) (by decide) ?_
        refine lv_aload_n hx hb d_Law_law_104 rfl (lv_at hl 1 rfl) ?_
        refine lv_aload_n hx hb d_Law_law_105 rfl (lv_at hl 0 rfl) ?_
        refine lv_iload_n hx hb d_Law_law_106 rfl (lv_at hl 3 rfl) ?_
        refine lv_iconst (v := 1) hx hb d_Law_law_107 (by decide) ?_
        refine lv_iadd hx hb d_Law_law_108 ?_
        obtain ⟨hi4, h⟩ := h
        refine rw_sld hx hb hX hbl hbA hS hi4 d_Law_law_109 ?_
        refine lv_aload_n hx hb d_Law_law_110 rfl (lv_at hl 0 rfl) ?_
        refine lv_iload_n hx hb d_Law_law_111 rfl (lv_at hl 3 rfl) ?_
        refine lv_iconst (v := 2) hx hb d_Law_law_112 (by decide) ?_
        refine lv_iadd hx hb d_Law_law_113 ?_
        obtain ⟨hi5, h⟩ := h
        refine rw_sld hx hb hX hbl hbA hS hi5 d_Law_law_114 ?_
        refine lv_aload_n hx hb d_Law_law_115 rfl (lv_at hl 0 rfl) ?_
        refine lv_iload_n hx hb d_Law_law_116 rfl (lv_at hl 3 rfl) ?_
        refine lv_iconst (v := 3) hx hb d_Law_law_117 (by decide) ?_
        refine lv_iadd hx hb d_Law_law_118 ?_
        obtain ⟨hi6, h⟩ := h
        refine rw_sld hx hb hX hbl hbA hS hi6 d_Law_law_119 ?_
        refine rw_cVi (rest := []) X hP hS yv_PR_function isO_PR (c_PR_function hG h) q_204 ⟨rfl, rfl, by decide, by decide⟩ rfl rfl hl.1 (Nat.le_of_ble_eq_true rfl) ⟨by decide, by decide⟩ d_Law_law_120 (fun r8 V7 H locs h hP hS => ?_)
        refine lv_aload_n hx hb d_Law_law_123 rfl (lv_at hl 2 rfl) ?_
        refine lv_aload_n hx hb d_Law_law_124 rfl (lv_at hl 0 rfl) ?_
        refine lv_iload_n hx hb d_Law_law_125 rfl (lv_at hl 3 rfl) ?_
        refine lv_iconst (v := 1) hx hb d_Law_law_126 (by decide) ?_
        refine lv_iadd hx hb d_Law_law_127 ?_
        obtain ⟨hi10, h⟩ := h
        refine rw_sld hx hb hX hbl hbA hS hi10 d_Law_law_128 ?_
        refine lv_aload_n hx hb d_Law_law_129 rfl (lv_at hl 0 rfl) ?_
        refine lv_iload_n hx hb d_Law_law_130 rfl (lv_at hl 3 rfl) ?_
        refine lv_iconst (v := 2) hx hb d_Law_law_131 (by decide) ?_
        refine lv_iadd hx hb d_Law_law_132 ?_
        obtain ⟨hi11, h⟩ := h
        refine rw_sld hx hb hX hbl hbA hS hi11 d_Law_law_133 ?_
        refine lv_aload_n hx hb d_Law_law_134 rfl (lv_at hl 0 rfl) ?_
        refine lv_iload_n hx hb d_Law_law_135 rfl (lv_at hl 3 rfl) ?_
        refine lv_iconst (v := 3) hx hb d_Law_law_136 (by decide) ?_
        refine lv_iadd hx hb d_Law_law_137 ?_
        obtain ⟨hi12, h⟩ := h
        refine rw_sld hx hb hX hbl hbA hS hi12 d_Law_law_138 ?_
        refine rw_cVi (rest := [.int r8]) X hP hS yv_Mo_function isO_Mo (c_Mo_function hG h) q_537 ⟨rfl, rfl, by decide, by decide⟩ rfl rfl hl.1 (Nat.le_of_ble_eq_true rfl) ⟨by decide, by decide⟩ d_Law_law_139 (fun r14 V13 H locs h hP hS => ?_)
        refine lv_icmp_eq (tgt := 494) hx hb d_Law_law_142 (by decide) (fun c16 => ?_) (fun c16 => ?_)
        · have h := h.1 c16
          exact t_Law_law_b494 X hX hbl hlow (hd := p_Law_law_b18 xs L n) ih h hP hS (lv_sub hl [0, 1, 2, 3] rfl)
        · have h := h.2 c16
          refine lv_iconst (v := 0) hx hb d_Law_law_145 (by decide) ?_
          exact h.elim
      · have h := h.2 c3
        by_cases c17 : ((xs (nt x3)) &&& 15) = 1
        · have h := h.1 c17
          refine lv_tableIn (off := 115) (tgt := 147) hx hb d_Law_law_32 (by rw [c17]; decide) (by rw [c17]; decide) (by rw [c17]; rfl) (by decide) ?_
          refine lv_aload_n hx hb d_Law_law_147 rfl (lv_at hl 1 rfl) ?_
          refine lv_aload_n hx hb d_Law_law_148 rfl (lv_at hl 0 rfl) ?_
          refine lv_iload_n hx hb d_Law_law_149 rfl (lv_at hl 3 rfl) ?_
          refine lv_iconst (v := 1) hx hb d_Law_law_150 (by decide) ?_
          refine lv_iadd hx hb d_Law_law_151 ?_
          obtain ⟨hi18, h⟩ := h
          refine rw_sld hx hb hX hbl hbA hS hi18 d_Law_law_152 ?_
          refine lv_aload_n hx hb d_Law_law_153 rfl (lv_at hl 0 rfl) ?_
          refine lv_iload_n hx hb d_Law_law_154 rfl (lv_at hl 3 rfl) ?_
          refine lv_iconst (v := 2) hx hb d_Law_law_155 (by decide) ?_
          refine lv_iadd hx hb d_Law_law_156 ?_
          obtain ⟨hi19, h⟩ := h
          refine rw_sld hx hb hX hbl hbA hS hi19 d_Law_law_157 ?_
          refine lv_aload_n hx hb d_Law_law_158 rfl (lv_at hl 0 rfl) ?_
          refine lv_iload_n hx hb d_Law_law_159 rfl (lv_at hl 3 rfl) ?_
          refine lv_iconst (v := 3) hx hb d_Law_law_160 (by decide) ?_
          refine lv_iadd hx hb d_Law_law_161 ?_
          obtain ⟨hi20, h⟩ := h
          refine rw_sld hx hb hX hbl hbA hS hi20 d_Law_law_162 ?_
          refine rw_cVi (rest := []) X hP hS yv_PR_emit isO_PR (c_PR_emit hG h) q_227 ⟨rfl, rfl, by decide, by decide⟩ rfl rfl hl.1 (Nat.le_of_ble_eq_true rfl) ⟨by decide, by decide⟩ d_Law_law_163 (fun r22 V21 H locs h hP hS => ?_)
          refine lv_aload_n hx hb d_Law_law_166 rfl (lv_at hl 2 rfl) ?_
          refine lv_aload_n hx hb d_Law_law_167 rfl (lv_at hl 0 rfl) ?_
          refine lv_iload_n hx hb d_Law_law_168 rfl (lv_at hl 3 rfl) ?_
          refine lv_iconst (v := 1) hx hb d_Law_law_169 (by decide) ?_
          refine lv_iadd hx hb d_Law_law_170 ?_
          obtain ⟨hi24, h⟩ := h
          refine rw_sld hx hb hX hbl hbA hS hi24 d_Law_law_171 ?_
          refine lv_aload_n hx hb d_Law_law_172 rfl (lv_at hl 0 rfl) ?_
          refine lv_iload_n hx hb d_Law_law_173 rfl (lv_at hl 3 rfl) ?_
          refine lv_iconst (v := 2) hx hb d_Law_law_174 (by decide) ?_
          refine lv_iadd hx hb d_Law_law_175 ?_
          obtain ⟨hi25, h⟩ := h
          refine rw_sld hx hb hX hbl hbA hS hi25 d_Law_law_176 ?_
          refine lv_aload_n hx hb d_Law_law_177 rfl (lv_at hl 0 rfl) ?_
          refine lv_iload_n hx hb d_Law_law_178 rfl (lv_at hl 3 rfl) ?_
          refine lv_iconst (v := 3) hx hb d_Law_law_179 (by decide) ?_
          refine lv_iadd hx hb d_Law_law_180 ?_
          obtain ⟨hi26, h⟩ := h
          refine rw_sld hx hb hX hbl hbA hS hi26 d_Law_law_181 ?_
          refine rw_cVi (rest := [.int r22]) X hP hS yv_Mo_emit isO_Mo (c_Mo_emit hG h) q_545 ⟨rfl, rfl, by decide, by decide⟩ rfl rfl hl.1 (Nat.le_of_ble_eq_true rfl) ⟨by decide, by decide⟩ d_Law_law_182 (fun r28 V27 H locs h hP hS => ?_)
          refine lv_icmp_eq (tgt := 494) hx hb d_Law_law_185 (by decide) (fun c30 => ?_) (fun c30 => ?_)
          · have h := h.1 c30
            exact t_Law_law_b494 X hX hbl hlow (hd := p_Law_law_b18 xs L n) ih h hP hS (lv_sub hl [0, 1, 2, 3] rfl)
          · have h := h.2 c30
            refine lv_iconst (v := 0) hx hb d_Law_law_188 (by decide) ?_
            exact h.elim
        · have h := h.2 c17
          by_cases c31 : ((xs (nt x3)) &&& 15) = 2
          · have h := h.1 c31
            refine lv_tableIn (off := 158) (tgt := 190) hx hb d_Law_law_32 (by rw [c31]; decide) (by rw [c31]; decide) (by rw [c31]; rfl) (by decide) ?_
            refine lv_aload_n hx hb d_Law_law_190 rfl (lv_at hl 1 rfl) ?_
            refine lv_aload_n hx hb d_Law_law_191 rfl (lv_at hl 0 rfl) ?_
            refine lv_iload_n hx hb d_Law_law_192 rfl (lv_at hl 3 rfl) ?_
            refine lv_iconst (v := 1) hx hb d_Law_law_193 (by decide) ?_
            refine lv_iadd hx hb d_Law_law_194 ?_
            obtain ⟨hi32, h⟩ := h
            refine rw_sld hx hb hX hbl hbA hS hi32 d_Law_law_195 ?_
            refine rw_cVi (rest := []) X hP hS yv_PR_erase isO_PR (c_PR_erase hG h) q_239 ⟨rfl, rfl, by decide, by decide⟩ rfl rfl hl.1 (Nat.le_of_ble_eq_true rfl) ⟨by decide, by decide⟩ d_Law_law_196 (fun r34 V33 H locs h hP hS => ?_)
            refine lv_aload_n hx hb d_Law_law_199 rfl (lv_at hl 2 rfl) ?_
            refine lv_aload_n hx hb d_Law_law_200 rfl (lv_at hl 0 rfl) ?_
            refine lv_iload_n hx hb d_Law_law_201 rfl (lv_at hl 3 rfl) ?_
            refine lv_iconst (v := 1) hx hb d_Law_law_202 (by decide) ?_
            refine lv_iadd hx hb d_Law_law_203 ?_
            obtain ⟨hi36, h⟩ := h
            refine rw_sld hx hb hX hbl hbA hS hi36 d_Law_law_204 ?_
            refine rw_cVi (rest := [.int r34]) X hP hS yv_Mo_erase isO_Mo (c_Mo_erase hG h) q_553 ⟨rfl, rfl, by decide, by decide⟩ rfl rfl hl.1 (Nat.le_of_ble_eq_true rfl) ⟨by decide, by decide⟩ d_Law_law_205 (fun r38 V37 H locs h hP hS => ?_)
            refine lv_icmp_eq (tgt := 494) hx hb d_Law_law_208 (by decide) (fun c40 => ?_) (fun c40 => ?_)
            · have h := h.1 c40
              exact t_Law_law_b494 X hX hbl hlow (hd := p_Law_law_b18 xs L n) ih h hP hS (lv_sub hl [0, 1, 2, 3] rfl)
            · have h := h.2 c40
              refine lv_iconst (v := 0) hx hb d_Law_law_211 (by decide) ?_
              exact h.elim
          · have h := h.2 c31
            by_cases c41 : ((xs (nt x3)) &&& 15) = 3
            · have h := h.1 c41
              refine lv_tableIn (off := 181) (tgt := 213) hx hb d_Law_law_32 (by rw [c41]; decide) (by rw [c41]; decide) (by rw [c41]; rfl) (by decide) ?_
              refine lv_aload_n hx hb d_Law_law_213 rfl (lv_at hl 1 rfl) ?_
              refine rw_cVi (rest := []) X hP hS yv_PR_check isO_PR (c_PR_check hG h) q_243 ⟨rfl, rfl, by decide, by decide⟩ rfl rfl hl.1 (Nat.le_of_ble_eq_true rfl) ⟨by decide, by decide⟩ d_Law_law_214 (fun r43 V42 H locs h hP hS => ?_)
              refine lv_aload_n hx hb d_Law_law_217 rfl (lv_at hl 2 rfl) ?_
              refine rw_cVi (rest := [.int r43]) X hP hS yv_Mo_check isO_Mo (c_Mo_check hG h) q_557 ⟨rfl, rfl, by decide, by decide⟩ rfl rfl hl.1 (Nat.le_of_ble_eq_true rfl) ⟨by decide, by decide⟩ d_Law_law_218 (fun r46 V45 H locs h hP hS => ?_)
              refine lv_icmp_eq (tgt := 494) hx hb d_Law_law_221 (by decide) (fun c48 => ?_) (fun c48 => ?_)
              · have h := h.1 c48
                exact t_Law_law_b494 X hX hbl hlow (hd := p_Law_law_b18 xs L n) ih h hP hS (lv_sub hl [0, 1, 2, 3] rfl)
              · have h := h.2 c48
                refine lv_iconst (v := 0) hx hb d_Law_law_224 (by decide) ?_
                exact h.elim
            · have h := h.2 c41
              by_cases c49 : ((xs (nt x3)) &&& 15) = 4
              · have h := h.1 c49
                refine lv_tableIn (off := 194) (tgt := 226) hx hb d_Law_law_32 (by rw [c49]; decide) (by rw [c49]; decide) (by rw [c49]; rfl) (by decide) ?_
                refine lv_aload_n hx hb d_Law_law_226 rfl (lv_at hl 1 rfl) ?_
                refine rw_cVi (rest := []) X hP hS yv_PR_fault isO_PR (c_PR_fault hG h) q_299 ⟨rfl, rfl, by decide, by decide⟩ rfl rfl hl.1 (Nat.le_of_ble_eq_true rfl) ⟨by decide, by decide⟩ d_Law_law_227 (fun r51 V50 H locs h hP hS => ?_)
                refine lv_aload_n hx hb d_Law_law_230 rfl (lv_at hl 2 rfl) ?_
                refine rw_cVi (rest := [.int r51]) X hP hS yv_Mo_fault isO_Mo (c_Mo_fault hG h) q_581 ⟨rfl, rfl, by decide, by decide⟩ rfl rfl hl.1 (Nat.le_of_ble_eq_true rfl) ⟨by decide, by decide⟩ d_Law_law_231 (fun r54 V53 H locs h hP hS => ?_)
                refine lv_icmp_eq (tgt := 494) hx hb d_Law_law_234 (by decide) (fun c56 => ?_) (fun c56 => ?_)
                · have h := h.1 c56
                  exact t_Law_law_b494 X hX hbl hlow (hd := p_Law_law_b18 xs L n) ih h hP hS (lv_sub hl [0, 1, 2, 3] rfl)
                · have h := h.2 c56
                  refine lv_iconst (v := 0) hx hb d_Law_law_237 (by decide) ?_
                  exact h.elim
              · have h := h.2 c49
                by_cases c57 : ((xs (nt x3)) &&& 15) = 5
                · have h := h.1 c57
                  refine lv_tableIn (off := 207) (tgt := 239) hx hb d_Law_law_32 (by rw [c57]; decide) (by rw [c57]; decide) (by rw [c57]; rfl) (by decide) ?_
                  refine lv_aload_n hx hb d_Law_law_239 rfl (lv_at hl 1 rfl) ?_
                  refine lv_aload_n hx hb d_Law_law_240 rfl (lv_at hl 0 rfl) ?_
                  refine lv_iload_n hx hb d_Law_law_241 rfl (lv_at hl 3 rfl) ?_
                  refine lv_iconst (v := 1) hx hb d_Law_law_242 (by decide) ?_
                  refine lv_iadd hx hb d_Law_law_243 ?_
                  obtain ⟨hi58, h⟩ := h
                  refine rw_sld hx hb hX hbl hbA hS hi58 d_Law_law_244 ?_
                  refine lv_aload_n hx hb d_Law_law_245 rfl (lv_at hl 0 rfl) ?_
                  refine lv_iload_n hx hb d_Law_law_246 rfl (lv_at hl 3 rfl) ?_
                  refine lv_iconst (v := 2) hx hb d_Law_law_247 (by decide) ?_
                  refine lv_iadd hx hb d_Law_law_248 ?_
                  obtain ⟨hi59, h⟩ := h
                  refine rw_sld hx hb hX hbl hbA hS hi59 d_Law_law_249 ?_
                  refine lv_aload_n hx hb d_Law_law_250 rfl (lv_at hl 0 rfl) ?_
                  refine lv_iload_n hx hb d_Law_law_251 rfl (lv_at hl 3 rfl) ?_
                  refine lv_iconst (v := 3) hx hb d_Law_law_252 (by decide) ?_
                  refine lv_iadd hx hb d_Law_law_253 ?_
                  obtain ⟨hi60, h⟩ := h
                  refine rw_sld hx hb hX hbl hbA hS hi60 d_Law_law_254 ?_
                  refine rw_cVi (rest := []) X hP hS yv_PR_start isO_PR (c_PR_start hG h) q_303 ⟨rfl, rfl, by decide, by decide⟩ rfl rfl hl.1 (Nat.le_of_ble_eq_true rfl) ⟨by decide, by decide⟩ d_Law_law_255 (fun r62 V61 H locs h hP hS => ?_)
                  refine lv_aload_n hx hb d_Law_law_258 rfl (lv_at hl 2 rfl) ?_
                  refine lv_aload_n hx hb d_Law_law_259 rfl (lv_at hl 0 rfl) ?_
                  refine lv_iload_n hx hb d_Law_law_260 rfl (lv_at hl 3 rfl) ?_
                  refine lv_iconst (v := 1) hx hb d_Law_law_261 (by decide) ?_
                  refine lv_iadd hx hb d_Law_law_262 ?_
                  obtain ⟨hi64, h⟩ := h
                  refine rw_sld hx hb hX hbl hbA hS hi64 d_Law_law_263 ?_
                  refine lv_aload_n hx hb d_Law_law_264 rfl (lv_at hl 0 rfl) ?_
                  refine lv_iload_n hx hb d_Law_law_265 rfl (lv_at hl 3 rfl) ?_
                  refine lv_iconst (v := 2) hx hb d_Law_law_266 (by decide) ?_
                  refine lv_iadd hx hb d_Law_law_267 ?_
                  obtain ⟨hi65, h⟩ := h
                  refine rw_sld hx hb hX hbl hbA hS hi65 d_Law_law_268 ?_
                  refine lv_aload_n hx hb d_Law_law_269 rfl (lv_at hl 0 rfl) ?_
                  refine lv_iload_n hx hb d_Law_law_270 rfl (lv_at hl 3 rfl) ?_
                  refine lv_iconst (v := 3) hx hb d_Law_law_271 (by decide) ?_
                  refine lv_iadd hx hb d_Law_law_272 ?_
                  obtain ⟨hi66, h⟩ := h
                  refine rw_sld hx hb hX hbl hbA hS hi66 d_Law_law_273 ?_
                  refine rw_cVi (rest := [.int r62]) X hP hS yv_Mo_start isO_Mo (c_Mo_start hG h) q_585 ⟨rfl, rfl, by decide, by decide⟩ rfl rfl hl.1 (Nat.le_of_ble_eq_true rfl) ⟨by decide, by decide⟩ d_Law_law_274 (fun r68 V67 H locs h hP hS => ?_)
                  refine lv_icmp_eq (tgt := 494) hx hb d_Law_law_277 (by decide) (fun c70 => ?_) (fun c70 => ?_)
                  · have h := h.1 c70
                    exact t_Law_law_b494 X hX hbl hlow (hd := p_Law_law_b18 xs L n) ih h hP hS (lv_sub hl [0, 1, 2, 3] rfl)
                  · have h := h.2 c70
                    refine lv_iconst (v := 0) hx hb d_Law_law_280 (by decide) ?_
                    exact h.elim
                · have h := h.2 c57
                  by_cases c71 : ((xs (nt x3)) &&& 15) = 6
                  · have h := h.1 c71
                    refine lv_tableIn (off := 250) (tgt := 282) hx hb d_Law_law_32 (by rw [c71]; decide) (by rw [c71]; decide) (by rw [c71]; rfl) (by decide) ?_
                    refine lv_aload_n hx hb d_Law_law_282 rfl (lv_at hl 1 rfl) ?_
                    refine lv_aload_n hx hb d_Law_law_283 rfl (lv_at hl 0 rfl) ?_
                    refine lv_iload_n hx hb d_Law_law_284 rfl (lv_at hl 3 rfl) ?_
                    refine lv_iconst (v := 1) hx hb d_Law_law_285 (by decide) ?_
                    refine lv_iadd hx hb d_Law_law_286 ?_
                    obtain ⟨hi72, h⟩ := h
                    refine rw_sld hx hb hX hbl hbA hS hi72 d_Law_law_287 ?_
                    refine rw_cVi (rest := []) X hP hS yv_PR_resume isO_PR (c_PR_resume hG h) q_320 ⟨rfl, rfl, by decide, by decide⟩ rfl rfl hl.1 (Nat.le_of_ble_eq_true rfl) ⟨by decide, by decide⟩ d_Law_law_288 (fun r74 V73 H locs h hP hS => ?_)
                    refine lv_aload_n hx hb d_Law_law_291 rfl (lv_at hl 2 rfl) ?_
                    refine lv_aload_n hx hb d_Law_law_292 rfl (lv_at hl 0 rfl) ?_
                    refine lv_iload_n hx hb d_Law_law_293 rfl (lv_at hl 3 rfl) ?_
                    refine lv_iconst (v := 1) hx hb d_Law_law_294 (by decide) ?_
                    refine lv_iadd hx hb d_Law_law_295 ?_
                    obtain ⟨hi76, h⟩ := h
                    refine rw_sld hx hb hX hbl hbA hS hi76 d_Law_law_296 ?_
                    refine rw_cVi (rest := [.int r74]) X hP hS yv_Mo_resume isO_Mo (c_Mo_resume hG h) q_593 ⟨rfl, rfl, by decide, by decide⟩ rfl rfl hl.1 (Nat.le_of_ble_eq_true rfl) ⟨by decide, by decide⟩ d_Law_law_297 (fun r78 V77 H locs h hP hS => ?_)
                    refine lv_icmp_eq (tgt := 494) hx hb d_Law_law_300 (by decide) (fun c80 => ?_) (fun c80 => ?_)
                    · have h := h.1 c80
                      exact t_Law_law_b494 X hX hbl hlow (hd := p_Law_law_b18 xs L n) ih h hP hS (lv_sub hl [0, 1, 2, 3] rfl)
                    · have h := h.2 c80
                      refine lv_iconst (v := 0) hx hb d_Law_law_303 (by decide) ?_
                      exact h.elim
                  · have h := h.2 c71
                    by_cases c81 : ((xs (nt x3)) &&& 15) = 7
                    · have h := h.1 c81
                      refine lv_tableIn (off := 273) (tgt := 305) hx hb d_Law_law_32 (by rw [c81]; decide) (by rw [c81]; decide) (by rw [c81]; rfl) (by decide) ?_
                      refine lv_aload_n hx hb d_Law_law_305 rfl (lv_at hl 1 rfl) ?_
                      refine lv_aload_n hx hb d_Law_law_306 rfl (lv_at hl 0 rfl) ?_
                      refine lv_iload_n hx hb d_Law_law_307 rfl (lv_at hl 3 rfl) ?_
                      refine lv_iconst (v := 1) hx hb d_Law_law_308 (by decide) ?_
                      refine lv_iadd hx hb d_Law_law_309 ?_
                      obtain ⟨hi82, h⟩ := h
                      refine rw_sld hx hb hX hbl hbA hS hi82 d_Law_law_310 ?_
                      refine rw_cVi (rest := []) X hP hS yv_PR_reply isO_PR (c_PR_reply hG h) q_406 ⟨rfl, rfl, by decide, by decide⟩ rfl rfl hl.1 (Nat.le_of_ble_eq_true rfl) ⟨by decide, by decide⟩ d_Law_law_311 (fun r84 V83 H locs h hP hS => ?_)
                      refine lv_aload_n hx hb d_Law_law_314 rfl (lv_at hl 2 rfl) ?_
                      refine lv_aload_n hx hb d_Law_law_315 rfl (lv_at hl 0 rfl) ?_
                      refine lv_iload_n hx hb d_Law_law_316 rfl (lv_at hl 3 rfl) ?_
                      refine lv_iconst (v := 1) hx hb d_Law_law_317 (by decide) ?_
                      refine lv_iadd hx hb d_Law_law_318 ?_
                      obtain ⟨hi86, h⟩ := h
                      refine rw_sld hx hb hX hbl hbA hS hi86 d_Law_law_319 ?_
                      refine rw_cVi (rest := [.int r84]) X hP hS yv_Mo_reply isO_Mo (c_Mo_reply hG h) q_635 ⟨rfl, rfl, by decide, by decide⟩ rfl rfl hl.1 (Nat.le_of_ble_eq_true rfl) ⟨by decide, by decide⟩ d_Law_law_320 (fun r88 V87 H locs h hP hS => ?_)
                      refine lv_icmp_eq (tgt := 494) hx hb d_Law_law_323 (by decide) (fun c90 => ?_) (fun c90 => ?_)
                      · have h := h.1 c90
                        exact t_Law_law_b494 X hX hbl hlow (hd := p_Law_law_b18 xs L n) ih h hP hS (lv_sub hl [0, 1, 2, 3] rfl)
                      · have h := h.2 c90
                        refine lv_iconst (v := 0) hx hb d_Law_law_326 (by decide) ?_
                        exact h.elim
                    · have h := h.2 c81
                      by_cases c91 : ((xs (nt x3)) &&& 15) = 8
                      · have h := h.1 c91
                        refine lv_tableIn (off := 296) (tgt := 328) hx hb d_Law_law_32 (by rw [c91]; decide) (by rw [c91]; decide) (by rw [c91]; rfl) (by decide) ?_
                        refine lv_aload_n hx hb d_Law_law_328 rfl (lv_at hl 1 rfl) ?_
                        refine lv_aload_n hx hb d_Law_law_329 rfl (lv_at hl 0 rfl) ?_
                        refine lv_iload_n hx hb d_Law_law_330 rfl (lv_at hl 3 rfl) ?_
                        refine lv_iconst (v := 1) hx hb d_Law_law_331 (by decide) ?_
                        refine lv_iadd hx hb d_Law_law_332 ?_
                        obtain ⟨hi92, h⟩ := h
                        refine rw_sld hx hb hX hbl hbA hS hi92 d_Law_law_333 ?_
                        refine lv_aload_n hx hb d_Law_law_334 rfl (lv_at hl 0 rfl) ?_
                        refine lv_iload_n hx hb d_Law_law_335 rfl (lv_at hl 3 rfl) ?_
                        refine lv_iconst (v := 2) hx hb d_Law_law_336 (by decide) ?_
                        refine lv_iadd hx hb d_Law_law_337 ?_
                        obtain ⟨hi93, h⟩ := h
                        refine rw_sld hx hb hX hbl hbA hS hi93 d_Law_law_338 ?_
                        refine lv_if_eq (tgt := 346) hx hb d_Law_law_339 (by decide) (fun c94 => ?_) (fun c94 => ?_)
                        · have h := h.1 c94
                          refine lv_iconst (v := 0) hx hb d_Law_law_346 (by decide) ?_
                          exact t_Law_law_b347 X hX hbl hlow (hd := p_Law_law_b18 xs L n) ih h hP hS (lv_sub hl [0, 1, 2, 3] rfl)
                        · have h := h.2 c94
                          refine lv_iconst (v := 1) hx hb d_Law_law_342 (by decide) ?_
                          refine lv_goto (tgt := 347) hx hb d_Law_law_343 (by decide) ?_
                          exact t_Law_law_b347 X hX hbl hlow (hd := p_Law_law_b18 xs L n) ih h hP hS (lv_sub hl [0, 1, 2, 3] rfl)
                      · have h := h.2 c91
                        by_cases c95 : ((xs (nt x3)) &&& 15) = 9
                        · have h := h.1 c95
                          refine lv_tableIn (off := 345) (tgt := 377) hx hb d_Law_law_32 (by rw [c95]; decide) (by rw [c95]; decide) (by rw [c95]; rfl) (by decide) ?_
                          refine lv_aload_n hx hb d_Law_law_377 rfl (lv_at hl 1 rfl) ?_
                          refine rw_cVl (rest := []) X hP hS yv_PR_result isO_PR (c_PR_result hG h) q_418 ⟨rfl, rfl, by decide, by decide⟩ rfl rfl hl.1 (Nat.le_of_ble_eq_true rfl) ⟨by decide, by decide⟩ d_Law_law_378 (fun r97 V96 H locs h hP hS => ?_)
                          refine lv_aload_n hx hb d_Law_law_381 rfl (lv_at hl 2 rfl) ?_
                          refine rw_cVl (rest := [.long r97]) X hP hS yv_Mo_result isO_Mo (c_Mo_result hG h) q_643 ⟨rfl, rfl, by decide, by decide⟩ rfl rfl hl.1 (Nat.le_of_ble_eq_true rfl) ⟨by decide, by decide⟩ d_Law_law_382 (fun r100 V99 H locs h hP hS => ?_)
                          refine W.lcmp hx hb d_Law_law_385 ?_
                          refine lv_if_eq (tgt := 494) hx hb d_Law_law_386 (by decide) (fun c102 => ?_) (fun c102 => ?_)
                          · have h := h.1 c102
                            exact t_Law_law_b494 X hX hbl hlow (hd := p_Law_law_b18 xs L n) ih h hP hS (lv_sub hl [0, 1, 2, 3] rfl)
                          · have h := h.2 c102
                            refine lv_iconst (v := 0) hx hb d_Law_law_389 (by decide) ?_
                            exact h.elim
                        · have h := h.2 c95
                          by_cases c103 : ((xs (nt x3)) &&& 15) = 10
                          · have h := h.1 c103
                            refine lv_tableIn (off := 359) (tgt := 391) hx hb d_Law_law_32 (by rw [c103]; decide) (by rw [c103]; decide) (by rw [c103]; rfl) (by decide) ?_
                            refine lv_aload_n hx hb d_Law_law_391 rfl (lv_at hl 1 rfl) ?_
                            refine lv_aload_n hx hb d_Law_law_392 rfl (lv_at hl 0 rfl) ?_
                            refine lv_iload_n hx hb d_Law_law_393 rfl (lv_at hl 3 rfl) ?_
                            refine lv_iconst (v := 1) hx hb d_Law_law_394 (by decide) ?_
                            refine lv_iadd hx hb d_Law_law_395 ?_
                            obtain ⟨hi104, h⟩ := h
                            refine rw_sld hx hb hX hbl hbA hS hi104 d_Law_law_396 ?_
                            refine rw_cVl (rest := []) X hP hS yv_PR_memory isO_PR (c_PR_memory hG h) q_422 ⟨rfl, rfl, by decide, by decide⟩ rfl rfl hl.1 (Nat.le_of_ble_eq_true rfl) ⟨by decide, by decide⟩ d_Law_law_397 (fun r106 V105 H locs h hP hS => ?_)
                            refine lv_aload_n hx hb d_Law_law_400 rfl (lv_at hl 2 rfl) ?_
                            refine lv_aload_n hx hb d_Law_law_401 rfl (lv_at hl 0 rfl) ?_
                            refine lv_iload_n hx hb d_Law_law_402 rfl (lv_at hl 3 rfl) ?_
                            refine lv_iconst (v := 1) hx hb d_Law_law_403 (by decide) ?_
                            refine lv_iadd hx hb d_Law_law_404 ?_
                            obtain ⟨hi108, h⟩ := h
                            refine rw_sld hx hb hX hbl hbA hS hi108 d_Law_law_405 ?_
                            refine rw_cVl (rest := [.long r106]) X hP hS yv_Mo_memory isO_Mo (c_Mo_memory hG h) q_648 ⟨rfl, rfl, by decide, by decide⟩ rfl rfl hl.1 (Nat.le_of_ble_eq_true rfl) ⟨by decide, by decide⟩ d_Law_law_406 (fun r110 V109 H locs h hP hS => ?_)
                            refine W.lcmp hx hb d_Law_law_409 ?_
                            refine lv_if_eq (tgt := 494) hx hb d_Law_law_410 (by decide) (fun c112 => ?_) (fun c112 => ?_)
                            · have h := h.1 c112
                              exact t_Law_law_b494 X hX hbl hlow (hd := p_Law_law_b18 xs L n) ih h hP hS (lv_sub hl [0, 1, 2, 3] rfl)
                            · have h := h.2 c112
                              refine lv_iconst (v := 0) hx hb d_Law_law_413 (by decide) ?_
                              exact h.elim
                          · have h := h.2 c103
                            by_cases c113 : ((xs (nt x3)) &&& 15) = 11
                            · have h := h.1 c113
                              refine lv_tableIn (off := 383) (tgt := 415) hx hb d_Law_law_32 (by rw [c113]; decide) (by rw [c113]; decide) (by rw [c113]; rfl) (by decide) ?_
                              refine lv_aload_n hx hb d_Law_law_415 rfl (lv_at hl 1 rfl) ?_
                              refine lv_aload_n hx hb d_Law_law_416 rfl (lv_at hl 0 rfl) ?_
                              refine lv_iload_n hx hb d_Law_law_417 rfl (lv_at hl 3 rfl) ?_
                              refine lv_iconst (v := 1) hx hb d_Law_law_418 (by decide) ?_
                              refine lv_iadd hx hb d_Law_law_419 ?_
                              obtain ⟨hi114, h⟩ := h
                              refine rw_sld hx hb hX hbl hbA hS hi114 d_Law_law_420 ?_
                              refine lv_aload_n hx hb d_Law_law_421 rfl (lv_at hl 0 rfl) ?_
                              refine lv_iload_n hx hb d_Law_law_422 rfl (lv_at hl 3 rfl) ?_
                              refine lv_iconst (v := 2) hx hb d_Law_law_423 (by decide) ?_
                              refine lv_iadd hx hb d_Law_law_424 ?_
                              obtain ⟨hi115, h⟩ := h
                              refine rw_sld hx hb hX hbl hbA hS hi115 d_Law_law_425 ?_
                              refine rw_cVi (rest := []) X hP hS yv_PR_poke isO_PR (c_PR_poke hG h) q_427 ⟨rfl, rfl, by decide, by decide⟩ rfl rfl hl.1 (Nat.le_of_ble_eq_true rfl) ⟨by decide, by decide⟩ d_Law_law_426 (fun r117 V116 H locs h hP hS => ?_)
                              refine lv_aload_n hx hb d_Law_law_429 rfl (lv_at hl 2 rfl) ?_
                              refine lv_aload_n hx hb d_Law_law_430 rfl (lv_at hl 0 rfl) ?_
                              refine lv_iload_n hx hb d_Law_law_431 rfl (lv_at hl 3 rfl) ?_
                              refine lv_iconst (v := 1) hx hb d_Law_law_432 (by decide) ?_
                              refine lv_iadd hx hb d_Law_law_433 ?_
                              obtain ⟨hi119, h⟩ := h
                              refine rw_sld hx hb hX hbl hbA hS hi119 d_Law_law_434 ?_
                              refine lv_aload_n hx hb d_Law_law_435 rfl (lv_at hl 0 rfl) ?_
                              refine lv_iload_n hx hb d_Law_law_436 rfl (lv_at hl 3 rfl) ?_
                              refine lv_iconst (v := 2) hx hb d_Law_law_437 (by decide) ?_
                              refine lv_iadd hx hb d_Law_law_438 ?_
                              obtain ⟨hi120, h⟩ := h
                              refine rw_sld hx hb hX hbl hbA hS hi120 d_Law_law_439 ?_
                              refine rw_cVi (rest := [.int r117]) X hP hS yv_Mo_poke isO_Mo (c_Mo_poke hG h) q_652 ⟨rfl, rfl, by decide, by decide⟩ rfl rfl hl.1 (Nat.le_of_ble_eq_true rfl) ⟨by decide, by decide⟩ d_Law_law_440 (fun r122 V121 H locs h hP hS => ?_)
                              refine lv_icmp_eq (tgt := 494) hx hb d_Law_law_443 (by decide) (fun c124 => ?_) (fun c124 => ?_)
                              · have h := h.1 c124
                                exact t_Law_law_b494 X hX hbl hlow (hd := p_Law_law_b18 xs L n) ih h hP hS (lv_sub hl [0, 1, 2, 3] rfl)
                              · have h := h.2 c124
                                refine lv_iconst (v := 0) hx hb d_Law_law_446 (by decide) ?_
                                exact h.elim
                            · have h := h.2 c113
                              by_cases c125 : ((xs (nt x3)) &&& 15) = 12
                              · have h := h.1 c125
                                refine lv_tableIn (off := 416) (tgt := 448) hx hb d_Law_law_32 (by rw [c125]; decide) (by rw [c125]; decide) (by rw [c125]; rfl) (by decide) ?_
                                refine lv_aload_n hx hb d_Law_law_448 rfl (lv_at hl 1 rfl) ?_
                                refine lv_aload_n hx hb d_Law_law_449 rfl (lv_at hl 0 rfl) ?_
                                refine lv_iload_n hx hb d_Law_law_450 rfl (lv_at hl 3 rfl) ?_
                                refine lv_iconst (v := 1) hx hb d_Law_law_451 (by decide) ?_
                                refine lv_iadd hx hb d_Law_law_452 ?_
                                obtain ⟨hi126, h⟩ := h
                                refine rw_sld hx hb hX hbl hbA hS hi126 d_Law_law_453 ?_
                                refine rw_cVi (rest := []) X hP hS yv_PR_state isO_PR (c_PR_state hG h) q_431 ⟨rfl, rfl, by decide, by decide⟩ rfl rfl hl.1 (Nat.le_of_ble_eq_true rfl) ⟨by decide, by decide⟩ d_Law_law_454 (fun r128 V127 H locs h hP hS => ?_)
                                refine lv_aload_n hx hb d_Law_law_457 rfl (lv_at hl 2 rfl) ?_
                                refine lv_aload_n hx hb d_Law_law_458 rfl (lv_at hl 0 rfl) ?_
                                refine lv_iload_n hx hb d_Law_law_459 rfl (lv_at hl 3 rfl) ?_
                                refine lv_iconst (v := 1) hx hb d_Law_law_460 (by decide) ?_
                                refine lv_iadd hx hb d_Law_law_461 ?_
                                obtain ⟨hi130, h⟩ := h
                                refine rw_sld hx hb hX hbl hbA hS hi130 d_Law_law_462 ?_
                                refine rw_cVi (rest := [.int r128]) X hP hS yv_Mo_state isO_Mo (c_Mo_state hG h) q_656 ⟨rfl, rfl, by decide, by decide⟩ rfl rfl hl.1 (Nat.le_of_ble_eq_true rfl) ⟨by decide, by decide⟩ d_Law_law_463 (fun r132 V131 H locs h hP hS => ?_)
                                refine lv_icmp_eq (tgt := 494) hx hb d_Law_law_466 (by decide) (fun c134 => ?_) (fun c134 => ?_)
                                · have h := h.1 c134
                                  exact t_Law_law_b494 X hX hbl hlow (hd := p_Law_law_b18 xs L n) ih h hP hS (lv_sub hl [0, 1, 2, 3] rfl)
                                · have h := h.2 c134
                                  refine lv_iconst (v := 0) hx hb d_Law_law_469 (by decide) ?_
                                  exact h.elim
                              · have h := h.2 c125
                                by_cases c135 : ((xs (nt x3)) &&& 15) = 13
                                · have h := h.1 c135
                                  refine lv_tableIn (off := 439) (tgt := 471) hx hb d_Law_law_32 (by rw [c135]; decide) (by rw [c135]; decide) (by rw [c135]; rfl) (by decide) ?_
                                  refine lv_aload_n hx hb d_Law_law_471 rfl (lv_at hl 1 rfl) ?_
                                  refine lv_aload_n hx hb d_Law_law_472 rfl (lv_at hl 0 rfl) ?_
                                  refine lv_iload_n hx hb d_Law_law_473 rfl (lv_at hl 3 rfl) ?_
                                  refine lv_iconst (v := 1) hx hb d_Law_law_474 (by decide) ?_
                                  refine lv_iadd hx hb d_Law_law_475 ?_
                                  obtain ⟨hi136, h⟩ := h
                                  refine rw_sld hx hb hX hbl hbA hS hi136 d_Law_law_476 ?_
                                  refine rw_cVi (rest := []) X hP hS yv_PR_count isO_PR (c_PR_count hG h) q_436 ⟨rfl, rfl, by decide, by decide⟩ rfl rfl hl.1 (Nat.le_of_ble_eq_true rfl) ⟨by decide, by decide⟩ d_Law_law_477 (fun r138 V137 H locs h hP hS => ?_)
                                  refine lv_aload_n hx hb d_Law_law_480 rfl (lv_at hl 2 rfl) ?_
                                  refine lv_aload_n hx hb d_Law_law_481 rfl (lv_at hl 0 rfl) ?_
                                  refine lv_iload_n hx hb d_Law_law_482 rfl (lv_at hl 3 rfl) ?_
                                  refine lv_iconst (v := 1) hx hb d_Law_law_483 (by decide) ?_
                                  refine lv_iadd hx hb d_Law_law_484 ?_
                                  obtain ⟨hi140, h⟩ := h
                                  refine rw_sld hx hb hX hbl hbA hS hi140 d_Law_law_485 ?_
                                  refine rw_cVi (rest := [.int r138]) X hP hS yv_Mo_count isO_Mo (c_Mo_count hG h) q_660 ⟨rfl, rfl, by decide, by decide⟩ rfl rfl hl.1 (Nat.le_of_ble_eq_true rfl) ⟨by decide, by decide⟩ d_Law_law_486 (fun r142 V141 H locs h hP hS => ?_)
                                  refine lv_icmp_eq (tgt := 494) hx hb d_Law_law_489 (by decide) (fun c144 => ?_) (fun c144 => ?_)
                                  · have h := h.1 c144
                                    exact t_Law_law_b494 X hX hbl hlow (hd := p_Law_law_b18 xs L n) ih h hP hS (lv_sub hl [0, 1, 2, 3] rfl)
                                  · have h := h.2 c144
                                    refine lv_iconst (v := 0) hx hb d_Law_law_492 (by decide) ?_
                                    exact h.elim
                                · have h := h.2 c135
                                  have nc3 := lv_neT (a := 0) c3 rfl
                                  have nc17 := lv_neT (a := 1) c17 rfl
                                  have nc31 := lv_neT (a := 2) c31 rfl
                                  have nc41 := lv_neT (a := 3) c41 rfl
                                  have nc49 := lv_neT (a := 4) c49 rfl
                                  have nc57 := lv_neT (a := 5) c57 rfl
                                  have nc71 := lv_neT (a := 6) c71 rfl
                                  have nc81 := lv_neT (a := 7) c81 rfl
                                  have nc91 := lv_neT (a := 8) c91 rfl
                                  have nc95 := lv_neT (a := 9) c95 rfl
                                  have nc103 := lv_neT (a := 10) c103 rfl
                                  have nc113 := lv_neT (a := 11) c113 rfl
                                  have nc125 := lv_neT (a := 12) c125 rfl
                                  have nc135 := lv_neT (a := 13) c135 rfl
                                  refine lv_tableOut (tgt := 494) hx hb d_Law_law_32 (by omega) (by decide) ?_
                                  exact t_Law_law_b494 X hX hbl hlow (hd := p_Law_law_b18 xs L n) ih h hP hS (lv_sub hl [0, 1, 2, 3] rfl)
end MM
