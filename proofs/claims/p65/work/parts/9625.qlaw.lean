/-! p65: the law writes its canal's text (generator wip/p65/gen/qlaw.py) -/
theorem cl_L_194 : Cond.classLink RL 194 RJ4 ∈ TS := TS_of (tin_6 _ (List.mem_of_getElem? (i := 2) (by decide +kernel))) (by decide +kernel)
theorem ki_J4 : Cond.instantiable RJ4 4 ∈ TS := TS_of (tin_6 _ (List.mem_of_getElem? (i := 3) (by decide +kernel))) (by decide +kernel)
theorem catR_len {f : Nat → List Nat} {a : Nat} (h : ∀ k, (f k).length ≤ a) : ∀ n k, (catR f k n).length ≤ a * n := by
  intro n
  induction n with
  | zero => exact fun k => Nat.zero_le _
  | succ n ih =>
    intro k
    have h1 := h k
    have h2 := ih (k + 1)
    show (f k ++ catR f (k + 1) n).length ≤ a * (n + 1)
    rw [List.length_append, Nat.mul_add, Nat.mul_one]
    omega
def LQ (arr can sb b : Nat) (v : Int32) (NP nB nO k : Nat) : List (Nat × Value) := [(8, .int (nI k)), (7, .ref b), (6, .int (nI nO)), (5, .int (nI nB)), (4, .int (nI NP)), (3, .int v), (2, .ref arr), (1, .ref can), (0, .ref sb)]
section LWQ
variable {p : Program} {l : Launch} {e : Env} {R : Room} {s : State} {m : MethodId} {args : Array Value} {below : List Frame} {meth : Method} {c : Code} {cells slots t1 t2 N b LL sb can arr NP nB nO : Nat} {Q : State → Prop} {D DB : va_G} {tc : Nat → ClassId} {ad : Nat → Nat} {H0 : Heap} {ws : va_W} {T : List Nat} {xs : Nat → Int32} {v : Int32}

theorem lq_98 (E : Eq9 p s m args meth c D DB tc ad t1 t2 N H0) (hX : va_X sb LL xs s s.heap) (hbl : sb < s.heap.size) (hL : LL < 2 ^ 31) (hR : 9 ≤ R.frames ∧ 360 ≤ R.locals) {k : Nat} (hk : k < 50) (hcs : cells + 30 ≤ R.cells ∧ slots + 60000 ≤ R.slots) (hw : BW (tc 0) b T ws) (hT : T.length ≤ 400)
    (kk : ∀ ws, BW (tc 0) b (T ++ tx2 wLk k (lkV LL xs k)) ws → Wq p l e R s m args below meth c (cells + 5) (slots + 12500) Q DB N H0 ws 140 (LQ arr can sb b v NP nB nO k) []) :
    Wq p l e R s m args below meth c cells slots Q DB N H0 ws 98 (LQ arr can sb b v NP nB nO k) [] := by
  refine rq_aload E dL_law_98 1 rfl ?_
  refine rq_ldcS E sr_L_208 dL_law_100 ?_
  refine rq_aS (i := 2) E hw (by decide) (Nat.le_trans hT (by decide)) (by decide) rfl (Nat.le_of_ble_eq_true rfl) ⟨by omega, by omega⟩ ⟨by omega, by omega⟩ dL_law_102 (fun ws1 w1 => ?_)
  have l1 := ln_a hT (w := byN 2) (by decide +kernel)
  refine rq_iload E dL_law_105 0 rfl ?_
  refine rq_aI (v := k) E w1 rfl (by omega) (Nat.le_trans l1 (by decide)) rfl (Nat.le_of_ble_eq_true rfl) ⟨by omega, by omega⟩ ⟨by omega, by omega⟩ dL_law_107 (fun ws2 w2 => ?_)
  have l2 := ln_a l1 (w := dg (k)) (Nat.le_trans (dg_l _).2 (by decide))
  refine rq_bipush (v := nI 32) E dL_law_110 (by decide +kernel) ?_
  refine rq_aC (k := 32) E w2 rfl (by decide) (Nat.le_trans l2 (by decide)) rfl (Nat.le_of_ble_eq_true rfl) ⟨by omega, by omega⟩ ⟨by omega, by omega⟩ dL_law_112 (fun ws3 w3 => ?_)
  have l3 := ln_a l2 (w := [32]) (Nat.le_of_ble_eq_true rfl)
  refine rq_iconst (v := nI 1) E dL_law_115 (by decide +kernel) ?_
  refine rq_aload_n E dL_law_116 rfl 8 rfl ?_
  refine rq_iconst (v := nI 1) E dL_law_117 (by decide +kernel) ?_
  refine rq_iload E dL_law_118 0 rfl ?_
  refine rq_iadd E dL_law_120 ?_
  refine rq_cell E hX hbl hL (k := 1 + k) (by omega) (nI_add _ _) ml_L_190 rfl (Nat.le_of_ble_eq_true rfl) ⟨by omega, by omega⟩ ⟨by omega, by omega⟩ dL_law_121 ?_
  refine rq_iconst (v := nI 2) E dL_law_124 (by decide +kernel) ?_
  refine rq_ishr E dL_law_125 ?_
  refine rq_iconst (v := nI 4) E dL_law_126 (by decide +kernel) ?_
  refine rq_most (n := 4) (v := (cvSh LL xs (1 + k) 2)) E rfl (by decide) (by decide) ml_L_154 rfl (Nat.le_of_ble_eq_true rfl) ⟨by omega, by omega⟩ ⟨by omega, by omega⟩ dL_law_127 ?_
  refine rq_iadd E dL_law_130 ?_
  refine rq_aI (v := 1 + (mo (cvSh LL xs (1 + k) 2) 4)) E w3 (nI_add _ _) (by have := mo_lt (v := (cvSh LL xs (1 + k) 2)) (n := 4) (by decide); omega) (Nat.le_trans l3 (by decide)) rfl (Nat.le_of_ble_eq_true rfl) ⟨by omega, by omega⟩ ⟨by omega, by omega⟩ dL_law_131 (fun ws4 w4 => ?_)
  have l4 := ln_a l3 (w := dg (1 + (mo (cvSh LL xs (1 + k) 2) 4))) (Nat.le_trans (dg_l _).2 (by decide))
  refine rq_bipush (v := nI 59) E dL_law_134 (by decide +kernel) ?_
  refine rq_aC (k := 59) E w4 rfl (by decide) (Nat.le_trans l4 (by decide)) rfl (Nat.le_of_ble_eq_true rfl) ⟨by omega, by omega⟩ ⟨by omega, by omega⟩ dL_law_136 (fun ws5 w5 => ?_)
  have l5 := ln_a l4 (w := [59]) (Nat.le_of_ble_eq_true rfl)
  refine rq_pop E dL_law_139 rfl ?_
  rw [tx2_b (w := wLk) (by decide +kernel)] at w5
  exact Wq_widen (by omega) (by omega) (kk _ w5)
theorem lq_157 (E : Eq9 p s m args meth c D DB tc ad t1 t2 N H0) (hX : va_X sb LL xs s s.heap) (hbl : sb < s.heap.size) (hL : LL < 2 ^ 31) (hR : 9 ≤ R.frames ∧ 360 ≤ R.locals) {k : Nat} (hk : k < 50) (hcs : cells + 30 ≤ R.cells ∧ slots + 60000 ≤ R.slots) (hw : BW (tc 0) b T ws) (hT : T.length ≤ 400)
    (kk : ∀ ws, BW (tc 0) b (T ++ tx2 wBr k (brV LL xs k)) ws → Wq p l e R s m args below meth c (cells + 5) (slots + 12500) Q DB N H0 ws 200 (LQ arr can sb b v NP nB nO k) []) :
    Wq p l e R s m args below meth c cells slots Q DB N H0 ws 157 (LQ arr can sb b v NP nB nO k) [] := by
  refine rq_aload E dL_law_157 1 rfl ?_
  refine rq_ldcS E sr_L_213 dL_law_159 ?_
  refine rq_aS (i := 3) E hw (by decide) (Nat.le_trans hT (by decide)) (by decide) rfl (Nat.le_of_ble_eq_true rfl) ⟨by omega, by omega⟩ ⟨by omega, by omega⟩ dL_law_161 (fun ws1 w1 => ?_)
  have l1 := ln_a hT (w := byN 3) (by decide +kernel)
  refine rq_iload E dL_law_164 0 rfl ?_
  refine rq_aI (v := k) E w1 rfl (by omega) (Nat.le_trans l1 (by decide)) rfl (Nat.le_of_ble_eq_true rfl) ⟨by omega, by omega⟩ ⟨by omega, by omega⟩ dL_law_166 (fun ws2 w2 => ?_)
  have l2 := ln_a l1 (w := dg (k)) (Nat.le_trans (dg_l _).2 (by decide))
  refine rq_bipush (v := nI 32) E dL_law_169 (by decide +kernel) ?_
  refine rq_aC (k := 32) E w2 rfl (by decide) (Nat.le_trans l2 (by decide)) rfl (Nat.le_of_ble_eq_true rfl) ⟨by omega, by omega⟩ ⟨by omega, by omega⟩ dL_law_171 (fun ws3 w3 => ?_)
  have l3 := ln_a l2 (w := [32]) (Nat.le_of_ble_eq_true rfl)
  refine rq_iconst (v := nI 1) E dL_law_174 (by decide +kernel) ?_
  refine rq_aload_n E dL_law_175 rfl 8 rfl ?_
  refine rq_iconst (v := nI 1) E dL_law_176 (by decide +kernel) ?_
  refine rq_iload E dL_law_177 0 rfl ?_
  refine rq_iadd E dL_law_179 ?_
  refine rq_cell E hX hbl hL (k := 1 + k) (by omega) (nI_add _ _) ml_L_190 rfl (Nat.le_of_ble_eq_true rfl) ⟨by omega, by omega⟩ ⟨by omega, by omega⟩ dL_law_180 ?_
  refine rq_iconst (v := nI 4) E dL_law_183 (by decide +kernel) ?_
  refine rq_ishr E dL_law_184 ?_
  refine rq_bipush (v := nI 9) E dL_law_185 (by decide +kernel) ?_
  refine rq_most (n := 9) (v := (cvSh LL xs (1 + k) 4)) E rfl (by decide) (by decide) ml_L_154 rfl (Nat.le_of_ble_eq_true rfl) ⟨by omega, by omega⟩ ⟨by omega, by omega⟩ dL_law_187 ?_
  refine rq_iadd E dL_law_190 ?_
  refine rq_aI (v := 1 + (mo (cvSh LL xs (1 + k) 4) 9)) E w3 (nI_add _ _) (by have := mo_lt (v := (cvSh LL xs (1 + k) 4)) (n := 9) (by decide); omega) (Nat.le_trans l3 (by decide)) rfl (Nat.le_of_ble_eq_true rfl) ⟨by omega, by omega⟩ ⟨by omega, by omega⟩ dL_law_191 (fun ws4 w4 => ?_)
  have l4 := ln_a l3 (w := dg (1 + (mo (cvSh LL xs (1 + k) 4) 9))) (Nat.le_trans (dg_l _).2 (by decide))
  refine rq_bipush (v := nI 59) E dL_law_194 (by decide +kernel) ?_
  refine rq_aC (k := 59) E w4 rfl (by decide) (Nat.le_trans l4 (by decide)) rfl (Nat.le_of_ble_eq_true rfl) ⟨by omega, by omega⟩ ⟨by omega, by omega⟩ dL_law_196 (fun ws5 w5 => ?_)
  have l5 := ln_a l4 (w := [59]) (Nat.le_of_ble_eq_true rfl)
  refine rq_pop E dL_law_199 rfl ?_
  rw [tx2_b (w := wBr) (by decide +kernel)] at w5
  exact Wq_widen (by omega) (by omega) (kk _ w5)
theorem lq_216 (E : Eq9 p s m args meth c D DB tc ad t1 t2 N H0) (hX : va_X sb LL xs s s.heap) (hbl : sb < s.heap.size) (hL : LL < 2 ^ 31) (hR : 9 ≤ R.frames ∧ 360 ≤ R.locals) {k : Nat} (hk : k < 50) (hN : 0 < NP ∧ NP ≤ 8) (hcs : cells + 30 ≤ R.cells ∧ slots + 60000 ≤ R.slots) (hw : BW (tc 0) b T ws) (hT : T.length ≤ 400)
    (kk : ∀ ws, BW (tc 0) b (T ++ fbA LL xs NP k) ws → Wq p l e R s m args below meth c (cells + 9) (slots + 22500) Q DB N H0 ws 320 (LQ arr can sb b v NP nB nO k) []) :
    Wq p l e R s m args below meth c cells slots Q DB N H0 ws 216 (LQ arr can sb b v NP nB nO k) [] := by
  refine rq_aload E dL_law_216 1 rfl ?_
  refine rq_ldcS E sr_L_215 dL_law_218 ?_
  refine rq_aS (i := 4) E hw (by decide) (Nat.le_trans hT (by decide)) (by decide) rfl (Nat.le_of_ble_eq_true rfl) ⟨by omega, by omega⟩ ⟨by omega, by omega⟩ dL_law_220 (fun ws1 w1 => ?_)
  have l1 := ln_a hT (w := byN 4) (by decide +kernel)
  refine rq_aload_n E dL_law_223 rfl 8 rfl ?_
  refine rq_bipush (v := nI 10) E dL_law_224 (by decide +kernel) ?_
  refine rq_iload E dL_law_226 0 rfl ?_
  refine rq_iadd E dL_law_228 ?_
  refine rq_cell E hX hbl hL (k := 10 + k) (by omega) (nI_add _ _) ml_L_190 rfl (Nat.le_of_ble_eq_true rfl) ⟨by omega, by omega⟩ ⟨by omega, by omega⟩ dL_law_229 ?_
  refine rq_iload E dL_law_232 4 rfl ?_
  refine rq_most (n := NP) (v := (cv LL xs (10 + k))) E rfl (by omega) (by omega) ml_L_154 rfl (Nat.le_of_ble_eq_true rfl) ⟨by omega, by omega⟩ ⟨by omega, by omega⟩ dL_law_234 ?_
  refine rq_aI (v := (mo (cv LL xs (10 + k)) NP)) E w1 rfl (by have := mo_lt (v := cv LL xs (10 + k)) (n := NP) (by omega); omega) (Nat.le_trans l1 (by decide)) rfl (Nat.le_of_ble_eq_true rfl) ⟨by omega, by omega⟩ ⟨by omega, by omega⟩ dL_law_237 (fun ws2 w2 => ?_)
  have l2 := ln_a l1 (w := dg ((mo (cv LL xs (10 + k)) NP))) (Nat.le_trans (dg_l _).2 (by decide))
  refine rq_bipush (v := nI 32) E dL_law_240 (by decide +kernel) ?_
  refine rq_aC (k := 32) E w2 rfl (by decide) (Nat.le_trans l2 (by decide)) rfl (Nat.le_of_ble_eq_true rfl) ⟨by omega, by omega⟩ ⟨by omega, by omega⟩ dL_law_242 (fun ws3 w3 => ?_)
  have l3 := ln_a l2 (w := [32]) (Nat.le_of_ble_eq_true rfl)
  refine rq_iconst (v := nI 1) E dL_law_245 (by decide +kernel) ?_
  refine rq_aload_n E dL_law_246 rfl 8 rfl ?_
  refine rq_bipush (v := nI 10) E dL_law_247 (by decide +kernel) ?_
  refine rq_iload E dL_law_249 0 rfl ?_
  refine rq_iadd E dL_law_251 ?_
  refine rq_cell E hX hbl hL (k := 10 + k) (by omega) (nI_add _ _) ml_L_190 rfl (Nat.le_of_ble_eq_true rfl) ⟨by omega, by omega⟩ ⟨by omega, by omega⟩ dL_law_252 ?_
  refine rq_iconst (v := nI 2) E dL_law_255 (by decide +kernel) ?_
  refine rq_ishr E dL_law_256 ?_
  refine rq_iconst (v := nI 5) E dL_law_257 (by decide +kernel) ?_
  refine rq_most (n := 5) (v := (cvSh LL xs (10 + k) 2)) E rfl (by decide) (by decide) ml_L_154 rfl (Nat.le_of_ble_eq_true rfl) ⟨by omega, by omega⟩ ⟨by omega, by omega⟩ dL_law_258 ?_
  refine rq_iadd E dL_law_261 ?_
  refine rq_aI (v := 1 + (mo (cvSh LL xs (10 + k) 2) 5)) E w3 (nI_add _ _) (by have := mo_lt (v := (cvSh LL xs (10 + k) 2)) (n := 5) (by decide); omega) (Nat.le_trans l3 (by decide)) rfl (Nat.le_of_ble_eq_true rfl) ⟨by omega, by omega⟩ ⟨by omega, by omega⟩ dL_law_262 (fun ws4 w4 => ?_)
  have l4 := ln_a l3 (w := dg (1 + (mo (cvSh LL xs (10 + k) 2) 5))) (Nat.le_trans (dg_l _).2 (by decide))
  refine rq_bipush (v := nI 32) E dL_law_265 (by decide +kernel) ?_
  refine rq_aC (k := 32) E w4 rfl (by decide) (Nat.le_trans l4 (by decide)) rfl (Nat.le_of_ble_eq_true rfl) ⟨by omega, by omega⟩ ⟨by omega, by omega⟩ dL_law_267 (fun ws5 w5 => ?_)
  have l5 := ln_a l4 (w := [32]) (Nat.le_of_ble_eq_true rfl)
  refine rq_aload_n E dL_law_270 rfl 8 rfl ?_
  refine rq_bipush (v := nI 10) E dL_law_271 (by decide +kernel) ?_
  refine rq_iload E dL_law_273 0 rfl ?_
  refine rq_iadd E dL_law_275 ?_
  refine rq_cell E hX hbl hL (k := 10 + k) (by omega) (nI_add _ _) ml_L_190 rfl (Nat.le_of_ble_eq_true rfl) ⟨by omega, by omega⟩ ⟨by omega, by omega⟩ dL_law_276 ?_
  refine rq_iconst (v := nI 4) E dL_law_279 (by decide +kernel) ?_
  refine rq_ishr E dL_law_280 ?_
  refine rq_bipush (v := nI 30) E dL_law_281 (by decide +kernel) ?_
  refine rq_most (n := 30) (v := (cvSh LL xs (10 + k) 4)) E rfl (by decide) (by decide) ml_L_154 rfl (Nat.le_of_ble_eq_true rfl) ⟨by omega, by omega⟩ ⟨by omega, by omega⟩ dL_law_283 ?_
  refine rq_aI (v := (mo (cvSh LL xs (10 + k) 4) 30)) E w5 rfl (by have := mo_lt (v := (cvSh LL xs (10 + k) 4)) (n := 30) (by decide); omega) (Nat.le_trans l5 (by decide)) rfl (Nat.le_of_ble_eq_true rfl) ⟨by omega, by omega⟩ ⟨by omega, by omega⟩ dL_law_286 (fun ws6 w6 => ?_)
  have l6 := ln_a l5 (w := dg ((mo (cvSh LL xs (10 + k) 4) 30))) (Nat.le_trans (dg_l _).2 (by decide))
  refine rq_bipush (v := nI 32) E dL_law_289 (by decide +kernel) ?_
  refine rq_aC (k := 32) E w6 rfl (by decide) (Nat.le_trans l6 (by decide)) rfl (Nat.le_of_ble_eq_true rfl) ⟨by omega, by omega⟩ ⟨by omega, by omega⟩ dL_law_291 (fun ws7 w7 => ?_)
  have l7 := ln_a l6 (w := [32]) (Nat.le_of_ble_eq_true rfl)
  refine rq_aload_n E dL_law_294 rfl 8 rfl ?_
  refine rq_bipush (v := nI 10) E dL_law_295 (by decide +kernel) ?_
  refine rq_iload E dL_law_297 0 rfl ?_
  refine rq_iadd E dL_law_299 ?_
  refine rq_cell E hX hbl hL (k := 10 + k) (by omega) (nI_add _ _) ml_L_190 rfl (Nat.le_of_ble_eq_true rfl) ⟨by omega, by omega⟩ ⟨by omega, by omega⟩ dL_law_300 ?_
  refine rq_bipush (v := nI 6) E dL_law_303 (by decide +kernel) ?_
  refine rq_ishr E dL_law_305 ?_
  refine rq_bipush (v := nI 12) E dL_law_306 (by decide +kernel) ?_
  refine rq_most (n := 12) (v := (cvSh LL xs (10 + k) 6)) E rfl (by decide) (by decide) ml_L_154 rfl (Nat.le_of_ble_eq_true rfl) ⟨by omega, by omega⟩ ⟨by omega, by omega⟩ dL_law_308 ?_
  refine rq_aI (v := (mo (cvSh LL xs (10 + k) 6) 12)) E w7 rfl (by have := mo_lt (v := (cvSh LL xs (10 + k) 6)) (n := 12) (by decide); omega) (Nat.le_trans l7 (by decide)) rfl (Nat.le_of_ble_eq_true rfl) ⟨by omega, by omega⟩ ⟨by omega, by omega⟩ dL_law_311 (fun ws8 w8 => ?_)
  have l8 := ln_a l7 (w := dg ((mo (cvSh LL xs (10 + k) 6) 12))) (Nat.le_trans (dg_l _).2 (by decide))
  refine rq_bipush (v := nI 59) E dL_law_314 (by decide +kernel) ?_
  refine rq_aC (k := 59) E w8 rfl (by decide) (Nat.le_trans l8 (by decide)) rfl (Nat.le_of_ble_eq_true rfl) ⟨by omega, by omega⟩ ⟨by omega, by omega⟩ dL_law_316 (fun ws9 w9 => ?_)
  have l9 := ln_a l8 (w := [59]) (Nat.le_of_ble_eq_true rfl)
  refine rq_pop E dL_law_319 rfl ?_
  rw [tx4_b (w := wBa) (by decide +kernel)] at w9
  exact Wq_widen (by omega) (by omega) (kk _ w9)
theorem lq_336 (E : Eq9 p s m args meth c D DB tc ad t1 t2 N H0) (hX : va_X sb LL xs s s.heap) (hbl : sb < s.heap.size) (hL : LL < 2 ^ 31) (hR : 9 ≤ R.frames ∧ 360 ≤ R.locals) {k : Nat} (hk : k < 50) (hN : 0 < NP ∧ NP ≤ 8) (hcs : cells + 30 ≤ R.cells ∧ slots + 60000 ≤ R.slots) (hw : BW (tc 0) b T ws) (hT : T.length ≤ 400)
    (kk : ∀ ws, BW (tc 0) b (T ++ foA LL xs NP k) ws → Wq p l e R s m args below meth c (cells + 9) (slots + 22500) Q DB N H0 ws 444 (LQ arr can sb b v NP nB nO k) []) :
    Wq p l e R s m args below meth c cells slots Q DB N H0 ws 336 (LQ arr can sb b v NP nB nO k) [] := by
  refine rq_aload E dL_law_336 1 rfl ?_
  refine rq_ldcS E sr_L_217 dL_law_338 ?_
  refine rq_aS (i := 5) E hw (by decide) (Nat.le_trans hT (by decide)) (by decide) rfl (Nat.le_of_ble_eq_true rfl) ⟨by omega, by omega⟩ ⟨by omega, by omega⟩ dL_law_340 (fun ws1 w1 => ?_)
  have l1 := ln_a hT (w := byN 5) (by decide +kernel)
  refine rq_aload_n E dL_law_343 rfl 8 rfl ?_
  refine rq_bipush (v := nI 16) E dL_law_344 (by decide +kernel) ?_
  refine rq_iload E dL_law_346 0 rfl ?_
  refine rq_iadd E dL_law_348 ?_
  refine rq_cell E hX hbl hL (k := 16 + k) (by omega) (nI_add _ _) ml_L_190 rfl (Nat.le_of_ble_eq_true rfl) ⟨by omega, by omega⟩ ⟨by omega, by omega⟩ dL_law_349 ?_
  refine rq_iload E dL_law_352 4 rfl ?_
  refine rq_most (n := NP) (v := (cv LL xs (16 + k))) E rfl (by omega) (by omega) ml_L_154 rfl (Nat.le_of_ble_eq_true rfl) ⟨by omega, by omega⟩ ⟨by omega, by omega⟩ dL_law_354 ?_
  refine rq_aI (v := (mo (cv LL xs (16 + k)) NP)) E w1 rfl (by have := mo_lt (v := cv LL xs (16 + k)) (n := NP) (by omega); omega) (Nat.le_trans l1 (by decide)) rfl (Nat.le_of_ble_eq_true rfl) ⟨by omega, by omega⟩ ⟨by omega, by omega⟩ dL_law_357 (fun ws2 w2 => ?_)
  have l2 := ln_a l1 (w := dg ((mo (cv LL xs (16 + k)) NP))) (Nat.le_trans (dg_l _).2 (by decide))
  refine rq_bipush (v := nI 32) E dL_law_360 (by decide +kernel) ?_
  refine rq_aC (k := 32) E w2 rfl (by decide) (Nat.le_trans l2 (by decide)) rfl (Nat.le_of_ble_eq_true rfl) ⟨by omega, by omega⟩ ⟨by omega, by omega⟩ dL_law_362 (fun ws3 w3 => ?_)
  have l3 := ln_a l2 (w := [32]) (Nat.le_of_ble_eq_true rfl)
  refine rq_iconst (v := nI 1) E dL_law_365 (by decide +kernel) ?_
  refine rq_aload_n E dL_law_366 rfl 8 rfl ?_
  refine rq_bipush (v := nI 16) E dL_law_367 (by decide +kernel) ?_
  refine rq_iload E dL_law_369 0 rfl ?_
  refine rq_iadd E dL_law_371 ?_
  refine rq_cell E hX hbl hL (k := 16 + k) (by omega) (nI_add _ _) ml_L_190 rfl (Nat.le_of_ble_eq_true rfl) ⟨by omega, by omega⟩ ⟨by omega, by omega⟩ dL_law_372 ?_
  refine rq_iconst (v := nI 2) E dL_law_375 (by decide +kernel) ?_
  refine rq_ishr E dL_law_376 ?_
  refine rq_iconst (v := nI 4) E dL_law_377 (by decide +kernel) ?_
  refine rq_most (n := 4) (v := (cvSh LL xs (16 + k) 2)) E rfl (by decide) (by decide) ml_L_154 rfl (Nat.le_of_ble_eq_true rfl) ⟨by omega, by omega⟩ ⟨by omega, by omega⟩ dL_law_378 ?_
  refine rq_iadd E dL_law_381 ?_
  refine rq_aI (v := 1 + (mo (cvSh LL xs (16 + k) 2) 4)) E w3 (nI_add _ _) (by have := mo_lt (v := (cvSh LL xs (16 + k) 2)) (n := 4) (by decide); omega) (Nat.le_trans l3 (by decide)) rfl (Nat.le_of_ble_eq_true rfl) ⟨by omega, by omega⟩ ⟨by omega, by omega⟩ dL_law_382 (fun ws4 w4 => ?_)
  have l4 := ln_a l3 (w := dg (1 + (mo (cvSh LL xs (16 + k) 2) 4))) (Nat.le_trans (dg_l _).2 (by decide))
  refine rq_bipush (v := nI 32) E dL_law_385 (by decide +kernel) ?_
  refine rq_aC (k := 32) E w4 rfl (by decide) (Nat.le_trans l4 (by decide)) rfl (Nat.le_of_ble_eq_true rfl) ⟨by omega, by omega⟩ ⟨by omega, by omega⟩ dL_law_387 (fun ws5 w5 => ?_)
  have l5 := ln_a l4 (w := [32]) (Nat.le_of_ble_eq_true rfl)
  refine rq_iconst (v := nI 1) E dL_law_390 (by decide +kernel) ?_
  refine rq_aload_n E dL_law_391 rfl 8 rfl ?_
  refine rq_bipush (v := nI 16) E dL_law_392 (by decide +kernel) ?_
  refine rq_iload E dL_law_394 0 rfl ?_
  refine rq_iadd E dL_law_396 ?_
  refine rq_cell E hX hbl hL (k := 16 + k) (by omega) (nI_add _ _) ml_L_190 rfl (Nat.le_of_ble_eq_true rfl) ⟨by omega, by omega⟩ ⟨by omega, by omega⟩ dL_law_397 ?_
  refine rq_iconst (v := nI 4) E dL_law_400 (by decide +kernel) ?_
  refine rq_ishr E dL_law_401 ?_
  refine rq_bipush (v := nI 6) E dL_law_402 (by decide +kernel) ?_
  refine rq_most (n := 6) (v := (cvSh LL xs (16 + k) 4)) E rfl (by decide) (by decide) ml_L_154 rfl (Nat.le_of_ble_eq_true rfl) ⟨by omega, by omega⟩ ⟨by omega, by omega⟩ dL_law_404 ?_
  refine rq_iadd E dL_law_407 ?_
  refine rq_aI (v := 1 + (mo (cvSh LL xs (16 + k) 4) 6)) E w5 (nI_add _ _) (by have := mo_lt (v := (cvSh LL xs (16 + k) 4)) (n := 6) (by decide); omega) (Nat.le_trans l5 (by decide)) rfl (Nat.le_of_ble_eq_true rfl) ⟨by omega, by omega⟩ ⟨by omega, by omega⟩ dL_law_408 (fun ws6 w6 => ?_)
  have l6 := ln_a l5 (w := dg (1 + (mo (cvSh LL xs (16 + k) 4) 6))) (Nat.le_trans (dg_l _).2 (by decide))
  refine rq_bipush (v := nI 32) E dL_law_411 (by decide +kernel) ?_
  refine rq_aC (k := 32) E w6 rfl (by decide) (Nat.le_trans l6 (by decide)) rfl (Nat.le_of_ble_eq_true rfl) ⟨by omega, by omega⟩ ⟨by omega, by omega⟩ dL_law_413 (fun ws7 w7 => ?_)
  have l7 := ln_a l6 (w := [32]) (Nat.le_of_ble_eq_true rfl)
  refine rq_iconst (v := nI 1) E dL_law_416 (by decide +kernel) ?_
  refine rq_aload_n E dL_law_417 rfl 8 rfl ?_
  refine rq_bipush (v := nI 16) E dL_law_418 (by decide +kernel) ?_
  refine rq_iload E dL_law_420 0 rfl ?_
  refine rq_iadd E dL_law_422 ?_
  refine rq_cell E hX hbl hL (k := 16 + k) (by omega) (nI_add _ _) ml_L_190 rfl (Nat.le_of_ble_eq_true rfl) ⟨by omega, by omega⟩ ⟨by omega, by omega⟩ dL_law_423 ?_
  refine rq_bipush (v := nI 6) E dL_law_426 (by decide +kernel) ?_
  refine rq_ishr E dL_law_428 ?_
  refine rq_bipush (v := nI 80) E dL_law_429 (by decide +kernel) ?_
  refine rq_most (n := 80) (v := (cvSh LL xs (16 + k) 6)) E rfl (by decide) (by decide) ml_L_154 rfl (Nat.le_of_ble_eq_true rfl) ⟨by omega, by omega⟩ ⟨by omega, by omega⟩ dL_law_431 ?_
  refine rq_iadd E dL_law_434 ?_
  refine rq_aI (v := 1 + (mo (cvSh LL xs (16 + k) 6) 80)) E w7 (nI_add _ _) (by have := mo_lt (v := (cvSh LL xs (16 + k) 6)) (n := 80) (by decide); omega) (Nat.le_trans l7 (by decide)) rfl (Nat.le_of_ble_eq_true rfl) ⟨by omega, by omega⟩ ⟨by omega, by omega⟩ dL_law_435 (fun ws8 w8 => ?_)
  have l8 := ln_a l7 (w := dg (1 + (mo (cvSh LL xs (16 + k) 6) 80))) (Nat.le_trans (dg_l _).2 (by decide))
  refine rq_bipush (v := nI 59) E dL_law_438 (by decide +kernel) ?_
  refine rq_aC (k := 59) E w8 rfl (by decide) (Nat.le_trans l8 (by decide)) rfl (Nat.le_of_ble_eq_true rfl) ⟨by omega, by omega⟩ ⟨by omega, by omega⟩ dL_law_440 (fun ws9 w9 => ?_)
  have l9 := ln_a l8 (w := [59]) (Nat.le_of_ble_eq_true rfl)
  refine rq_pop E dL_law_443 rfl ?_
  rw [tx4_b (w := wOr) (by decide +kernel)] at w9
  exact Wq_widen (by omega) (by omega) (kk _ w9)
section LOOP

theorem lq_74 (E : Eq9 p s m args meth c D DB tc ad t1 t2 N H0) (hX : va_X sb LL xs s s.heap) (hbl : sb < s.heap.size) (hL : LL < 2 ^ 31) (hR : 9 ≤ R.frames ∧ 360 ≤ R.locals) (hRc : 2000 ≤ R.cells ∧ 600000 ≤ R.slots) (hN : 3 ≤ NP ∧ NP ≤ 8) {T1 : List Nat}
    (next : ∀ cells slots ws, BW (tc 0) b T1 ws → cells ≤ 790 ∧ slots ≤ 195000 → Wq p l e R s m args below meth c cells slots Q DB N H0 ws 206 (LQ arr can sb b v NP nB nO (NP - 1)) []) :
    ∀ n k cells slots T ws, k + n + 1 = NP → BW (tc 0) b T ws → T.length ≤ 9 + 24 * k → T ++ catR (fsA LL xs) k n = T1 → cells ≤ 720 + 10 * k ∧ slots ≤ 20000 + 25000 * k → Wq p l e R s m args below meth c cells slots Q DB N H0 ws 74 (LQ arr can sb b v NP nB nO k) [] := by
  intro n
  induction n with
  | zero =>
    intro k cells slots T ws hk hw hT h1 hc
    refine rq_iload E dL_law_74 0 rfl ?_
    refine rq_iload E dL_law_76 4 rfl ?_
    refine rq_iconst (v := nI 1) E dL_law_78 (by decide +kernel) ?_
    refine rq_isub E dL_law_79 ?_
    rw [nI_sub (show 1 ≤ NP by omega)]
    refine rq_icmp_ge (tgt := 206) E dL_law_80 rfl (fun q => ?_) (fun q => absurd (nI_le (show NP - 1 ≤ k by omega) (by omega)) q)
    have ek : k = NP - 1 := by omega
    have h1 : T = T1 := (List.append_nil T).symm.trans h1
    rw [h1] at hw
    rw [ek]
    exact next cells slots ws hw ⟨by omega, by omega⟩
  | succ n ih =>
    intro k cells slots T ws hk hw hT h1 hc
    have hk50 : k < 50 := by omega
    have three : ∀ cells slots ws, BW (tc 0) b (T ++ fsA LL xs k) ws → cells ≤ 720 + 10 * (k + 1) ∧ slots ≤ 20000 + 25000 * (k + 1) → Wq p l e R s m args below meth c cells slots Q DB N H0 ws 200 (LQ arr can sb b v NP nB nO k) [] := by
      intro cells slots ws hw hc
      refine rq_iinc1 (L' := LQ arr can sb b v NP nB nO (k + 1)) E dL_law_200 0 rfl (by decide) (by rw [nI_1]; rfl) ?_
      refine rq_goto (tgt := 74) E dL_law_203 rfl ?_
      have ln := fsA_len (LL := LL) (xs := xs) (k := k)
      exact ih (k + 1) cells slots (T ++ fsA LL xs k) ws (by omega) hw (by rw [List.length_append]; omega) ((catR_s _ _ _).trans h1) hc
    have two : ∀ cells slots ws, BW (tc 0) b (T ++ fsT LL xs k) ws → cells ≤ 720 + 10 * k + 5 ∧ slots ≤ 20000 + 25000 * k + 12500 → Wq p l e R s m args below meth c cells slots Q DB N H0 ws 140 (LQ arr can sb b v NP nB nO k) [] := by
      intro cells slots ws hw hc
      have ln := fsT_len (LL := LL) (xs := xs) (k := k)
      refine rq_aload_n E dL_law_140 rfl 8 rfl ?_
      refine rq_iconst (v := nI 1) E dL_law_141 (by decide +kernel) ?_
      refine rq_iload E dL_law_142 0 rfl ?_
      refine rq_iadd E dL_law_144 ?_
      refine rq_cell E hX hbl hL (k := 1 + k) (by omega) (nI_add _ _) ml_L_190 rfl (Nat.le_of_ble_eq_true rfl) ⟨by omega, by omega⟩ ⟨by omega, by omega⟩ dL_law_145 ?_
      refine rq_iconst (v := nI 3) E dL_law_148 (by decide +kernel) ?_
      refine rq_ishr E dL_law_149 ?_
      refine rq_iconst (v := nI 5) E dL_law_150 (by decide +kernel) ?_
      refine rq_most (n := 5) (v := (cvSh LL xs (1 + k) 3)) E rfl (by decide) (by decide) ml_L_154 rfl (Nat.le_of_ble_eq_true rfl) ⟨by omega, by omega⟩ ⟨by omega, by omega⟩ dL_law_151 ?_
      refine rq_if_ne (tgt := 200) E dL_law_154 rfl (fun q => ?_) (fun q => ?_)
      · refine three cells slots ws ?_ ⟨by omega, by omega⟩
        have e : fsA LL xs k = fsT LL xs k := by
          unfold fsA fsU
          rw [if_neg (fun z => q (by rw [z]; rfl)), List.append_nil]
        rw [e]
        exact hw
      · refine lq_157 E hX hbl hL hR hk50 ⟨by omega, by omega⟩ hw (by rw [List.length_append]; omega) (fun ws hw => three _ _ ws ?_ ⟨by omega, by omega⟩)
        have e : fsA LL xs k = fsT LL xs k ++ tx2 wBr k (brV LL xs k) := by
          have z : mo (cvSh LL xs (1 + k) 3) 5 = 0 := by
            have := mo_lt (v := cvSh LL xs (1 + k) 3) (n := 5) (by decide)
            exact nI_inj (by omega) (by decide) q
          unfold fsA fsU
          rw [if_pos z]
        rw [e, ← List.append_assoc]
        exact hw
    refine rq_iload E dL_law_74 0 rfl ?_
    refine rq_iload E dL_law_76 4 rfl ?_
    refine rq_iconst (v := nI 1) E dL_law_78 (by decide +kernel) ?_
    refine rq_isub E dL_law_79 ?_
    rw [nI_sub (show 1 ≤ NP by omega)]
    refine rq_icmp_ge (tgt := 206) E dL_law_80 rfl (fun q => absurd q (nI_ge (by omega) (by omega))) (fun q => ?_)
    refine rq_aload_n E dL_law_83 rfl 8 rfl ?_
    refine rq_iconst (v := nI 1) E dL_law_84 (by decide +kernel) ?_
    refine rq_iload E dL_law_85 0 rfl ?_
    refine rq_iadd E dL_law_87 ?_
    refine rq_cell E hX hbl hL (k := 1 + k) (by omega) (nI_add _ _) ml_L_190 rfl (Nat.le_of_ble_eq_true rfl) ⟨by omega, by omega⟩ ⟨by omega, by omega⟩ dL_law_88 ?_
    refine rq_iconst (v := nI 3) E dL_law_91 (by decide +kernel) ?_
    refine rq_most (n := 3) (v := (cv LL xs (1 + k))) E rfl (by decide) (by decide) ml_L_154 rfl (Nat.le_of_ble_eq_true rfl) ⟨by omega, by omega⟩ ⟨by omega, by omega⟩ dL_law_92 ?_
    refine rq_if_ne (tgt := 140) E dL_law_95 rfl (fun q => ?_) (fun q => ?_)
    · refine two cells slots ws ?_ ⟨by omega, by omega⟩
      have e : fsT LL xs k = [] := if_neg (fun z => q (by rw [z]; rfl))
      rw [e, List.append_nil]
      exact hw
    · refine lq_98 E hX hbl hL hR hk50 ⟨by omega, by omega⟩ hw (by omega) (fun ws hw => two _ _ ws ?_ ⟨by omega, by omega⟩)
      have e : fsT LL xs k = tx2 wLk k (lkV LL xs k) := if_pos (by
        have := mo_lt (v := cv LL xs (1 + k)) (n := 3) (by decide)
        exact nI_inj (by omega) (by decide) q)
      rw [e]
      exact hw
theorem lq_209 (E : Eq9 p s m args meth c D DB tc ad t1 t2 N H0) (hX : va_X sb LL xs s s.heap) (hbl : sb < s.heap.size) (hL : LL < 2 ^ 31) (hR : 9 ≤ R.frames ∧ 360 ≤ R.locals) (hRc : 2000 ≤ R.cells ∧ 600000 ≤ R.slots) (hN : 0 < NP ∧ NP ≤ 8) (hB : nB ≤ 4) {T1 : List Nat}
    (next : ∀ cells slots ws, BW (tc 0) b T1 ws → cells ≤ 830 ∧ slots ≤ 295000 → Wq p l e R s m args below meth c cells slots Q DB N H0 ws 326 (LQ arr can sb b v NP nB nO nB) []) :
    ∀ n k cells slots T ws, k + n = nB → BW (tc 0) b T ws → T.length ≤ 180 + 18 * k → T ++ catR (fbA LL xs NP) k n = T1 → cells ≤ 790 + 10 * k ∧ slots ≤ 195000 + 25000 * k → Wq p l e R s m args below meth c cells slots Q DB N H0 ws 209 (LQ arr can sb b v NP nB nO k) [] := by
  intro n
  induction n with
  | zero =>
    intro k cells slots T ws hk hw hT h1 hc
    refine rq_iload E dL_law_209 0 rfl ?_
    refine rq_iload E dL_law_211 3 rfl ?_
    refine rq_icmp_ge (tgt := 326) E dL_law_213 rfl (fun q => ?_) (fun q => absurd (nI_le (show nB ≤ k by omega) (by omega)) q)
    have ek : k = nB := by omega
    have h1 : T = T1 := (List.append_nil T).symm.trans h1
    rw [h1] at hw
    rw [ek]
    exact next cells slots ws hw ⟨by omega, by omega⟩
  | succ n ih =>
    intro k cells slots T ws hk hw hT h1 hc
    have hk50 : k < 50 := by omega
    refine rq_iload E dL_law_209 0 rfl ?_
    refine rq_iload E dL_law_211 3 rfl ?_
    refine rq_icmp_ge (tgt := 326) E dL_law_213 rfl (fun q => absurd q (nI_ge (by omega) (by omega))) (fun q => ?_)
    refine lq_216 E hX hbl hL hR hk50 hN ⟨by omega, by omega⟩ hw (by omega) (fun ws hw => ?_)
    refine rq_iinc1 (L' := LQ arr can sb b v NP nB nO (k + 1)) E dL_law_320 0 rfl (by decide) (by rw [nI_1]; rfl) ?_
    refine rq_goto (tgt := 209) E dL_law_323 rfl ?_
    have ln := fbA_len (LL := LL) (xs := xs) (np := NP) (k := k)
    exact ih (k + 1) _ _ (T ++ fbA LL xs NP k) ws (by omega) hw (by rw [List.length_append]; omega) ((catR_s _ _ _).trans h1) ⟨by omega, by omega⟩
theorem lq_329 (E : Eq9 p s m args meth c D DB tc ad t1 t2 N H0) (hX : va_X sb LL xs s s.heap) (hbl : sb < s.heap.size) (hL : LL < 2 ^ 31) (hR : 9 ≤ R.frames ∧ 360 ≤ R.locals) (hRc : 2000 ≤ R.cells ∧ 600000 ≤ R.slots) (hN : 0 < NP ∧ NP ≤ 8) (hB : nO ≤ 5) {T1 : List Nat}
    (next : ∀ cells slots ws, BW (tc 0) b T1 ws → cells ≤ 880 ∧ slots ≤ 420000 → Wq p l e R s m args below meth c cells slots Q DB N H0 ws 450 (LQ arr can sb b v NP nB nO nO) []) :
    ∀ n k cells slots T ws, k + n = nO → BW (tc 0) b T ws → T.length ≤ 255 + 18 * k → T ++ catR (foA LL xs NP) k n = T1 → cells ≤ 830 + 10 * k ∧ slots ≤ 295000 + 25000 * k → Wq p l e R s m args below meth c cells slots Q DB N H0 ws 329 (LQ arr can sb b v NP nB nO k) [] := by
  intro n
  induction n with
  | zero =>
    intro k cells slots T ws hk hw hT h1 hc
    refine rq_iload E dL_law_329 0 rfl ?_
    refine rq_iload E dL_law_331 2 rfl ?_
    refine rq_icmp_ge (tgt := 450) E dL_law_333 rfl (fun q => ?_) (fun q => absurd (nI_le (show nO ≤ k by omega) (by omega)) q)
    have ek : k = nO := by omega
    have h1 : T = T1 := (List.append_nil T).symm.trans h1
    rw [h1] at hw
    rw [ek]
    exact next cells slots ws hw ⟨by omega, by omega⟩
  | succ n ih =>
    intro k cells slots T ws hk hw hT h1 hc
    have hk50 : k < 50 := by omega
    refine rq_iload E dL_law_329 0 rfl ?_
    refine rq_iload E dL_law_331 2 rfl ?_
    refine rq_icmp_ge (tgt := 450) E dL_law_333 rfl (fun q => absurd q (nI_ge (by omega) (by omega))) (fun q => ?_)
    refine lq_336 E hX hbl hL hR hk50 hN ⟨by omega, by omega⟩ hw (by omega) (fun ws hw => ?_)
    refine rq_iinc1 (L' := LQ arr can sb b v NP nB nO (k + 1)) E dL_law_444 0 rfl (by decide) (by rw [nI_1]; rfl) ?_
    refine rq_goto (tgt := 329) E dL_law_447 rfl ?_
    have ln := foA_len (LL := LL) (xs := xs) (np := NP) (k := k)
    exact ih (k + 1) _ _ (T ++ foA LL xs NP k) ws (by omega) hw (by rw [List.length_append]; omega) ((catR_s _ _ _).trans h1) ⟨by omega, by omega⟩
end LOOP
theorem lq_13 (E : Eq9 p s m args meth c D DB tc ad t1 t2 N H0) (hX : va_X sb LL xs s s.heap) (hbl : sb < s.heap.size) (hL : LL < 2 ^ 31) (hR : 9 ≤ R.frames ∧ 360 ≤ R.locals) (hcs : cells ≤ 710 ∧ slots ≤ 10000) (hRc : 2000 ≤ R.cells ∧ 600000 ≤ R.slots)
    (kk : ∀ b ws, BW (tc 0) b ((byN 0 ++ dg (NPv LL xs)) ++ [59]) ws → Wq p l e R s m args below meth c 720 20000 Q DB N H0 ws 74 (LQ arr can sb b (cv LL xs 0) (NPv LL xs) (nBv LL xs) (nOv LL xs) 0) []) :
    Wq p l e R s m args below meth c cells slots Q DB N H0 [] 13 [(2, .ref arr), (1, .ref can), (0, .ref sb)] [] := by
  have hNP := NPv_b (LL := LL) (xs := xs)
  refine rq_aload_n E dL_law_13 rfl 2 rfl ?_
  refine rq_iconst (v := nI 0) E dL_law_14 (by decide +kernel) ?_
  refine rq_cell E hX hbl hL (k := 0) (by omega) rfl ml_L_190 rfl (Nat.le_of_ble_eq_true rfl) ⟨by omega, by omega⟩ ⟨by omega, by omega⟩ dL_law_15 ?_
  refine rq_istore_n (L' := [(3, .int (cv LL xs 0)), (2, .ref arr), (1, .ref can), (0, .ref sb)]) E dL_law_18 rfl (by decide) rfl ?_
  refine rq_iconst (v := nI 3) E dL_law_19 (by decide +kernel) ?_
  refine rq_iload_n E dL_law_20 rfl 0 rfl ?_
  refine rq_bipush (v := nI 6) E dL_law_21 (by decide +kernel) ?_
  refine rq_most (n := 6) (v := (cv LL xs 0)) E rfl (by decide) (by decide) ml_L_154 rfl (Nat.le_of_ble_eq_true rfl) ⟨by omega, by omega⟩ ⟨by omega, by omega⟩ dL_law_23 ?_
  refine rq_iadd E dL_law_26 ?_
  rw [nI_add]
  refine rq_istore (L' := [(4, .int (nI (NPv LL xs))), (3, .int (cv LL xs 0)), (2, .ref arr), (1, .ref can), (0, .ref sb)]) E dL_law_27 (by decide) rfl ?_
  refine rq_iconst (v := nI 1) E dL_law_29 (by decide +kernel) ?_
  refine rq_iload_n E dL_law_30 rfl 1 rfl ?_
  refine rq_iconst (v := nI 2) E dL_law_31 (by decide +kernel) ?_
  refine rq_ishr E dL_law_32 ?_
  refine rq_iconst (v := nI 4) E dL_law_33 (by decide +kernel) ?_
  refine rq_most (n := 4) (v := (cvSh LL xs (0) 2)) E rfl (by decide) (by decide) ml_L_154 rfl (Nat.le_of_ble_eq_true rfl) ⟨by omega, by omega⟩ ⟨by omega, by omega⟩ dL_law_34 ?_
  refine rq_iadd E dL_law_37 ?_
  rw [nI_add]
  refine rq_istore (L' := [(5, .int (nI (nBv LL xs))), (4, .int (nI (NPv LL xs))), (3, .int (cv LL xs 0)), (2, .ref arr), (1, .ref can), (0, .ref sb)]) E dL_law_38 (by decide) rfl ?_
  refine rq_iload_n E dL_law_40 rfl 2 rfl ?_
  refine rq_iconst (v := nI 4) E dL_law_41 (by decide +kernel) ?_
  refine rq_ishr E dL_law_42 ?_
  refine rq_bipush (v := nI 6) E dL_law_43 (by decide +kernel) ?_
  refine rq_most (n := 6) (v := (cvSh LL xs (0) 4)) E rfl (by decide) (by decide) ml_L_154 rfl (Nat.le_of_ble_eq_true rfl) ⟨by omega, by omega⟩ ⟨by omega, by omega⟩ dL_law_45 ?_
  refine rq_istore (L' := [(6, .int (nI (nOv LL xs))), (5, .int (nI (nBv LL xs))), (4, .int (nI (NPv LL xs))), (3, .int (cv LL xs 0)), (2, .ref arr), (1, .ref can), (0, .ref sb)]) E dL_law_48 (by decide) rfl ?_
  refine rq_new E cl_L_194 ki_J4 ⟨by omega, by omega⟩ dL_law_50 (fun b => ?_)
  refine rq_dup E dL_law_53 rfl ?_
  refine rq_ldcS E sr_L_196 dL_law_54 ?_
  refine rq_init (i := 0) E (by decide) (by decide) ml_L_198 rfl (Nat.le_of_ble_eq_true rfl) ⟨by omega, by omega⟩ ⟨by omega, by omega⟩ dL_law_56 (fun ws0 w0 => ?_)
  have l0 : (byN 0).length ≤ 10 := by decide +kernel
  refine rq_iload E dL_law_59 2 rfl ?_
  refine rq_aI (v := (NPv LL xs)) E w0 rfl (by omega) (Nat.le_trans l0 (by decide)) rfl (Nat.le_of_ble_eq_true rfl) ⟨by omega, by omega⟩ ⟨by omega, by omega⟩ dL_law_61 (fun ws1 w1 => ?_)
  have l1 := ln_a l0 (w := dg ((NPv LL xs))) (Nat.le_trans (dg_l _).2 (by decide))
  refine rq_bipush (v := nI 59) E dL_law_64 (by decide +kernel) ?_
  refine rq_aC (k := 59) E w1 rfl (by decide) (Nat.le_trans l1 (by decide)) rfl (Nat.le_of_ble_eq_true rfl) ⟨by omega, by omega⟩ ⟨by omega, by omega⟩ dL_law_66 (fun ws2 w2 => ?_)
  have l2 := ln_a l1 (w := [59]) (Nat.le_of_ble_eq_true rfl)
  refine rq_astore (L' := [(7, .ref b), (6, .int (nI (nOv LL xs))), (5, .int (nI (nBv LL xs))), (4, .int (nI (NPv LL xs))), (3, .int (cv LL xs 0)), (2, .ref arr), (1, .ref can), (0, .ref sb)]) E dL_law_69 (by decide) rfl ?_
  refine rq_iconst (v := nI 0) E dL_law_71 (by decide +kernel) ?_
  refine rq_istore (L' := LQ arr can sb b (cv LL xs 0) (NPv LL xs) (nBv LL xs) (nOv LL xs) 0) E dL_law_72 (by decide) rfl ?_
  exact Wq_widen (by omega) (by omega) (kk b _ w2)
/-- the law's text: from pc 13 to pc 457 -/
theorem lq_all (E : Eq9 p s m args meth c D DB tc ad t1 t2 N H0) (hX : va_X sb LL xs s s.heap) (hbl : sb < s.heap.size) (hL : LL < 2 ^ 31) (hR : 9 ≤ R.frames ∧ 360 ≤ R.locals) (hcs : cells ≤ 710 ∧ slots ≤ 10000) (hRc : 2000 ≤ R.cells ∧ 600000 ≤ R.slots) {TA : List Nat} (hTA : TA = txAll (NPv LL xs) (nBv LL xs) (nOv LL xs) (fsA LL xs) (fbA LL xs (NPv LL xs)) (foA LL xs (NPv LL xs)))
    (kk : ∀ b k cells slots x d q f a g, cells ≤ 890 ∧ slots ≤ 430000 → TA.length ≤ 400 → (∀ j, j < TA.length → g j = nI (TA.getD j 0)) → Wq p l e R s m args below meth c cells slots Q DB N H0 [oB b d TA.length, eB (tc 0) d q f, stN x (.ref a), eB (tc 0) a TA.length g] 457 (LQ arr can sb b (cv LL xs 0) (NPv LL xs) (nBv LL xs) (nOv LL xs) k) [.ref x, .ref arr, .ref can]) :
    Wq p l e R s m args below meth c cells slots Q DB N H0 [] 13 [(2, .ref arr), (1, .ref can), (0, .ref sb)] [] := by
  have hNP := NPv_b (LL := LL) (xs := xs)
  have hnB := nBv_b (LL := LL) (xs := xs)
  have hnO := nOv_b (LL := LL) (xs := xs)
  refine lq_13 E hX hbl hL hR hcs hRc (fun b ws hw => ?_)
  have hl0 : ((byN 0 ++ dg (NPv LL xs)) ++ [59]).length ≤ 9 := by
    have h1 := dg_l (NPv LL xs)
    have h2 : (byN 0).length = 6 := by decide +kernel
    rw [List.length_append, List.length_append, h2]
    have : [59].length = 1 := rfl
    omega
  refine lq_74 E hX hbl hL hR hRc hNP (fun cells slots ws hw hc => ?_) (NPv LL xs - 1) 0 720 20000 _ ws (by omega) hw (by omega) rfl ⟨by omega, by omega⟩
  refine rq_iconst (v := nI 0) E dL_law_206 (by decide +kernel) ?_
  refine rq_istore (L' := LQ arr can sb b (cv LL xs 0) (NPv LL xs) (nBv LL xs) (nOv LL xs) 0) E dL_law_207 (by decide) rfl ?_
  have hl1 : (((byN 0 ++ dg (NPv LL xs)) ++ [59]) ++ catR (fsA LL xs) 0 (NPv LL xs - 1)).length ≤ 180 := by
    have h1 := catR_len (f := fsA LL xs) (a := 24) (fun k => fsA_len) (NPv LL xs - 1) 0
    rw [List.length_append]
    omega
  refine lq_209 E hX hbl hL hR hRc ⟨by omega, hNP.2⟩ hnB.2 (fun cells slots ws hw hc => ?_) (nBv LL xs) 0 cells slots _ ws (by omega) hw (by omega) rfl ⟨by omega, by omega⟩
  refine rq_iconst (v := nI 0) E dL_law_326 (by decide +kernel) ?_
  refine rq_istore (L' := LQ arr can sb b (cv LL xs 0) (NPv LL xs) (nBv LL xs) (nOv LL xs) 0) E dL_law_327 (by decide) rfl ?_
  have hl2 : ((((byN 0 ++ dg (NPv LL xs)) ++ [59]) ++ catR (fsA LL xs) 0 (NPv LL xs - 1)) ++ catR (fbA LL xs (NPv LL xs)) 0 (nBv LL xs)).length ≤ 255 := by
    have h1 := catR_len (f := fbA LL xs (NPv LL xs)) (a := 18) (fun k => fbA_len) (nBv LL xs) 0
    rw [List.length_append]
    omega
  refine lq_329 E hX hbl hL hR hRc ⟨by omega, hNP.2⟩ hnO (fun cells slots ws hw hc => ?_) (nOv LL xs) 0 cells slots _ ws (by omega) hw (by omega) rfl ⟨by omega, by omega⟩
  have hl3 : (((((byN 0 ++ dg (NPv LL xs)) ++ [59]) ++ catR (fsA LL xs) 0 (NPv LL xs - 1)) ++ catR (fbA LL xs (NPv LL xs)) 0 (nBv LL xs)) ++ catR (foA LL xs (NPv LL xs)) 0 (nOv LL xs)).length ≤ 400 := by
    have h1 := catR_len (f := foA LL xs (NPv LL xs)) (a := 18) (fun k => foA_len) (nOv LL xs) 0
    rw [List.length_append]
    omega
  rw [txAll_b] at hw hl3
  rw [← hTA] at hw hl3
  refine rq_aload_n E dL_law_450 rfl 7 rfl ?_
  refine rq_aload_n E dL_law_451 rfl 6 rfl ?_
  refine rq_aload E dL_law_452 1 rfl ?_
  refine rq_str E hw rfl (Nat.le_of_ble_eq_true rfl) ⟨by omega, by omega⟩ ⟨by omega, by omega⟩ dL_law_454 (fun x d q f a g hg => ?_)
  exact kk b _ _ _ x d q f a g ⟨by omega, by omega⟩ hl3 hg
end LWQ
