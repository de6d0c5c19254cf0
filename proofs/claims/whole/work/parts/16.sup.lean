/-! known places of the store -/
def FU : Nat := 5000
theorem s_0 : sh 0 = 9 := by decide +kernel
theorem s_1 : sh 1 = 14 := by decide +kernel
theorem l_1 : ln 1 = 8 := by decide +kernel
theorem s_2 : sh 2 = 7 := by decide +kernel
theorem s_3 : sh 3 = 15 := by decide +kernel
theorem l_3 : ln 3 = 8 := by decide +kernel
theorem s_4 : sh 4 = 13 := by decide +kernel
theorem l_4 : ln 4 = 12 := by decide +kernel
theorem s_105 : sh 105 = 7 := by decide +kernel
theorem s_106 : sh 106 = 15 := by decide +kernel
theorem l_106 : ln 106 = 8 := by decide +kernel
theorem s_107 : sh 107 = 13 := by decide +kernel
theorem l_107 : ln 107 = 12 := by decide +kernel
theorem s_208 : sh 208 = 1 := by decide +kernel
theorem s_209 : sh 209 = 11 := by decide +kernel
theorem l_209 : ln 209 = 8 := by decide +kernel
theorem s_210 : sh 210 = 8 := by decide +kernel
theorem s_211 : sh 211 = 1 := by decide +kernel
theorem s_212 : sh 212 = 11 := by decide +kernel
theorem l_212 : ln 212 = 12 := by decide +kernel
theorem s_213 : sh 213 = 1 := by decide +kernel
theorem s_214 : sh 214 = 11 := by decide +kernel
theorem l_214 : ln 214 = 12 := by decide +kernel
theorem s_215 : sh 215 = 2 := by decide +kernel
theorem s_216 : sh 216 = 1 := by decide +kernel
theorem s_217 : sh 217 = 11 := by decide +kernel
theorem l_217 : ln 217 = 64 := by decide +kernel
theorem s_218 : sh 218 = 4 := by decide +kernel
theorem s_219 : sh 219 = 1 := by decide +kernel
theorem s_220 : sh 220 = 11 := by decide +kernel
theorem l_220 : ln 220 = 12 := by decide +kernel
theorem s_221 : sh 221 = 1 := by decide +kernel
theorem s_222 : sh 222 = 11 := by decide +kernel
theorem l_222 : ln 222 = 12 := by decide +kernel
theorem s_223 : sh 223 = 1 := by decide +kernel
theorem s_224 : sh 224 = 11 := by decide +kernel
theorem l_224 : ln 224 = 12 := by decide +kernel
theorem s_225 : sh 225 = 1 := by decide +kernel
theorem s_226 : sh 226 = 11 := by decide +kernel
theorem l_226 : ln 226 = 12 := by decide +kernel
theorem s_232 : sh 232 = 5 := by decide +kernel
theorem s_233 : sh 233 = 4 := by decide +kernel
theorem s_234 : sh 234 = 1 := by decide +kernel
theorem s_235 : sh 235 = 11 := by decide +kernel
theorem l_235 : ln 235 = 12 := by decide +kernel
theorem s_236 : sh 236 = 1 := by decide +kernel
theorem s_237 : sh 237 = 11 := by decide +kernel
theorem l_237 : ln 237 = 12 := by decide +kernel
theorem s_238 : sh 238 = 1 := by decide +kernel
theorem s_239 : sh 239 = 11 := by decide +kernel
theorem l_239 : ln 239 = 12 := by decide +kernel
theorem s_240 : sh 240 = 1 := by decide +kernel
theorem s_241 : sh 241 = 11 := by decide +kernel
theorem l_241 : ln 241 = 12 := by decide +kernel
theorem s_247 : sh 247 = 4 := by decide +kernel
theorem s_248 : sh 248 = 1 := by decide +kernel
theorem s_249 : sh 249 = 11 := by decide +kernel
theorem l_249 : ln 249 = 12 := by decide +kernel
theorem s_250 : sh 250 = 1 := by decide +kernel
theorem s_251 : sh 251 = 11 := by decide +kernel
theorem l_251 : ln 251 = 12 := by decide +kernel
theorem s_252 : sh 252 = 1 := by decide +kernel
theorem s_253 : sh 253 = 11 := by decide +kernel
theorem l_253 : ln 253 = 12 := by decide +kernel
theorem s_254 : sh 254 = 1 := by decide +kernel
theorem s_255 : sh 255 = 11 := by decide +kernel
theorem l_255 : ln 255 = 12 := by decide +kernel
theorem s_261 : sh 261 = 0 := by decide +kernel
theorem s_262 : sh 262 = 1 := by decide +kernel
theorem s_263 : sh 263 = 11 := by decide +kernel
theorem l_263 : ln 263 = 20 := by decide +kernel
theorem s_264 : sh 264 = 6 := by decide +kernel
theorem s_265 : sh 265 = 12 := by decide +kernel
theorem l_265 : ln 265 = 64 := by decide +kernel
theorem s_266 : sh 266 = 6 := by decide +kernel
theorem s_267 : sh 267 = 12 := by decide +kernel
theorem l_267 : ln 267 = 64 := by decide +kernel
theorem s_268 : sh 268 = 6 := by decide +kernel
theorem s_269 : sh 269 = 12 := by decide +kernel
theorem l_269 : ln 269 = 64 := by decide +kernel
theorem s_270 : sh 270 = 6 := by decide +kernel
theorem s_271 : sh 271 = 12 := by decide +kernel
theorem l_271 : ln 271 = 64 := by decide +kernel
theorem s_272 : sh 272 = 6 := by decide +kernel
theorem s_273 : sh 273 = 12 := by decide +kernel
theorem l_273 : ln 273 = 64 := by decide +kernel
theorem s_274 : sh 274 = 6 := by decide +kernel
theorem s_275 : sh 275 = 12 := by decide +kernel
theorem l_275 : ln 275 = 64 := by decide +kernel
theorem s_276 : sh 276 = 6 := by decide +kernel
theorem s_277 : sh 277 = 12 := by decide +kernel
theorem l_277 : ln 277 = 64 := by decide +kernel
theorem s_278 : sh 278 = 6 := by decide +kernel
theorem s_279 : sh 279 = 12 := by decide +kernel
theorem l_279 : ln 279 = 64 := by decide +kernel
theorem s_280 : sh 280 = 10 := by decide +kernel
theorem s_281 : sh 281 = 11 := by decide +kernel
theorem l_281 : ln 281 = 8 := by decide +kernel
theorem s_282 : sh 282 = 11 := by decide +kernel
theorem l_282 : ln 282 = 8 := by decide +kernel
theorem s_283 : sh 283 = 11 := by decide +kernel
theorem l_283 : ln 283 = 8 := by decide +kernel
theorem s_284 : sh 284 = 11 := by decide +kernel
theorem l_284 : ln 284 = 8 := by decide +kernel
theorem s_285 : sh 285 = 11 := by decide +kernel
theorem l_285 : ln 285 = 8 := by decide +kernel
theorem s_286 : sh 286 = 12 := by decide +kernel
theorem l_286 : ln 286 = 512 := by decide +kernel
theorem s_287 : sh 287 = 12 := by decide +kernel
theorem l_287 : ln 287 = 64 := by decide +kernel
theorem s_288 : sh 288 = 11 := by decide +kernel
theorem l_288 : ln 288 = 8 := by decide +kernel
theorem s_289 : sh 289 = 11 := by decide +kernel
theorem l_289 : ln 289 = 8 := by decide +kernel
theorem s_290 : sh 290 = 11 := by decide +kernel
theorem l_290 : ln 290 = 8 := by decide +kernel
theorem s_291 : sh 291 = 11 := by decide +kernel
theorem l_291 : ln 291 = 8 := by decide +kernel
theorem s_292 : sh 292 = 11 := by decide +kernel
theorem l_292 : ln 292 = 8 := by decide +kernel
theorem s_293 : sh 293 = 11 := by decide +kernel
theorem l_293 : ln 293 = 8 := by decide +kernel
theorem s_294 : sh 294 = 11 := by decide +kernel
theorem l_294 : ln 294 = 8 := by decide +kernel
theorem s_295 : sh 295 = 11 := by decide +kernel
theorem l_295 : ln 295 = 8 := by decide +kernel
theorem s_296 : sh 296 = 11 := by decide +kernel
theorem l_296 : ln 296 = 96 := by decide +kernel
theorem s_297 : sh 297 = 11 := by decide +kernel
theorem l_297 : ln 297 = 96 := by decide +kernel
theorem s_298 : sh 298 = 11 := by decide +kernel
theorem l_298 : ln 298 = 12 := by decide +kernel
theorem s_299 : sh 299 = 11 := by decide +kernel
theorem l_299 : ln 299 = 12 := by decide +kernel
theorem s_300 : sh 300 = 11 := by decide +kernel
theorem l_300 : ln 300 = 12 := by decide +kernel
theorem s_301 : sh 301 = 11 := by decide +kernel
theorem l_301 : ln 301 = 144 := by decide +kernel
theorem s_302 : sh 302 = 11 := by decide +kernel
theorem l_302 : ln 302 = 144 := by decide +kernel
theorem s_303 : sh 303 = 11 := by decide +kernel
theorem l_303 : ln 303 = 12 := by decide +kernel
theorem s_304 : sh 304 = 11 := by decide +kernel
theorem l_304 : ln 304 = 12 := by decide +kernel
theorem s_305 : sh 305 = 12 := by decide +kernel
theorem l_305 : ln 305 = 12 := by decide +kernel
theorem s_306 : sh 306 = 11 := by decide +kernel
theorem l_306 : ln 306 = 12 := by decide +kernel
theorem s_307 : sh 307 = 11 := by decide +kernel
theorem l_307 : ln 307 = 12 := by decide +kernel
theorem s_308 : sh 308 = 11 := by decide +kernel
theorem l_308 : ln 308 = 12 := by decide +kernel
theorem s_309 : sh 309 = 11 := by decide +kernel
theorem l_309 : ln 309 = 12 := by decide +kernel
theorem s_310 : sh 310 = 11 := by decide +kernel
theorem l_310 : ln 310 = 7 := by decide +kernel
theorem s_311 : sh 311 = 12 := by decide +kernel
theorem l_311 : ln 311 = 12 := by decide +kernel
theorem s_312 : sh 312 = 11 := by decide +kernel
theorem l_312 : ln 312 = 20 := by decide +kernel
theorem s_313 : sh 313 = 11 := by decide +kernel
theorem l_313 : ln 313 = 724 := by decide +kernel
theorem g_alenv {d : Nat} {I : sm_I} {pc : Nat} {lv : sm_L} {st : List Value} {U U' : sU} {r : Option Value} {a c n w1 w2 w3 : Nat} {v : Int32} (q : Nat) (hw : I.2.2.2.2[pc]? = some (some (.arraylength, w1, w2, w3))) (hs : sh a = c) (hc : c = 11 ∨ c = 12 ∨ c = 13 ∨ c = 14 ∨ c = 15) (hn : ln a = n) (hv : Int32.ofNat n = v) (hq : pc + 1 = q) (K : G d I q lv (.int v :: st) U r U') : G d I pc lv (.ref a :: st) U r U' := by
  subst hv
  exact g_alen q hw hs hc hn hq K
theorem ib_lt {i : Int32} {n : Nat} (h : ib i n) : i.toNatClampNeg < n := Nat.not_le.mp fun q => h (Or.inr q)
theorem sh_rfA_all : ∀ a, a < 314 → (sh a = 13 → ∀ i, i < ln a → sh (rfA a 13 i) = 3) ∧ (sh a = 14 → ∀ i, i < ln a → sh (rfA a 14 i) = 6) ∧ (sh a = 15 → ∀ i, i < ln a → sh (rfA a 15 i) = 8) := by decide +kernel
theorem sh_rfA_13 {a : Nat} {i : Int32} (h : sh a = 13) (hi : ib i (ln a)) : sh (rfA a 13 i.toNatClampNeg) = 3 := (sh_rfA_all a (sh_lt h (by decide))).1 h _ (ib_lt hi)
theorem sh_rfA_14 {a : Nat} {i : Int32} (h : sh a = 14) (hi : ib i (ln a)) : sh (rfA a 14 i.toNatClampNeg) = 6 := (sh_rfA_all a (sh_lt h (by decide))).2.1 h _ (ib_lt hi)
theorem sh_rfA_15 {a : Nat} {i : Int32} (h : sh a = 15) (hi : ib i (ln a)) : sh (rfA a 15 i.toNatClampNeg) = 8 := (sh_rfA_all a (sh_lt h (by decide))).2.2 h _ (ib_lt hi)
/-- the store after a copy of n longs from a at p to b at q -/
def sCpy (U : sU) (a b p q n : Nat) : sU := (U.1, fun c j => if c = b then va_cpy (U.2.1 a) (U.2.1 b) p q n j else U.2.1 c j, U.2.2)
/-- what a method with a boolean answer gives -/
theorem sm_run_z : ∀ (n d : Nat) (I : sm_I) (pc : Nat) (lv : sm_L) (st : List Value) (h h' : sm_H) (x : Int32), I.2.2.2.1 = some .boolean → sm_run sm_M n d I pc lv st h = some (some (.int x), h') → x = 0 ∨ x = 1 := by
  intro n
  induction n with
  | zero => intro d I pc lv st h h' x hI hr; cases hr
  | succ n ih =>
    intro d I pc lv st h h' x hI hr
    unfold sm_run at hr
    split at hr
    · split at hr
      · exact ih _ _ _ _ _ _ _ _ hI hr
      · split at hr
        · exact ih _ _ _ _ _ _ _ _ hI hr
        · split at hr
          · exact ih _ _ _ _ _ _ _ _ hI hr
          · split at hr
            · exact ih _ _ _ _ _ _ _ _ hI hr
            · split at hr
              · rename_i v hv
                cases hr
                unfold sm_rt at hv
                rw [hI] at hv
                split at hv
                all_goals first
                  | (cases hv; done)
                  | (rename_i e _ _ _ _ _ w hz _; cases hz)
                  | skip
                all_goals first
                  | (split at hv
                     · cases hv; assumption
                     · cases hv)
                  | (rename_i e; cases e)
                  | (rename_i e _; cases e)
                  | simp_all
              · split at hr
                · split at hr
                  · cases hr
                  · split at hr
                    · split at hr
                      · split at hr
                        · exact ih _ _ _ _ _ _ _ _ hI hr
                        · cases hr
                      · cases hr
                    · cases hr
                · cases hr
    · cases hr
theorem Rn_z {d : Nat} {J : sm_I} {as : List Value} {U U' : sU} {x : Int32} (hJ : J.2.2.2.1 = some .boolean) (h : Rn d J as U (some (.int x)) U') : x = 0 ∨ x = 1 := by
  obtain ⟨_, n, hn⟩ := h
  exact sm_run_z n d J 0 _ _ _ _ x hJ hn
