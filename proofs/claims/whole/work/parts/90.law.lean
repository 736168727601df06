/-! the law: after the two constructors every round calls both and goes on; by program (wip/whole/gen/law.py) -/
theorem qb_keep {M : qb_M} {cs ss : Nat} {sh : qb_Sh} {pc : Nat} {L : List (Option qb_V)} {st : List qb_V} {hp : qb_H} {Q : Option qb_V → qb_H → qb_Sh → Prop} (h : qb_R M cs ss sh pc L st hp (fun r hp' sh' => (hp' 1002 = hp 1002 ∧ hp' 1003 = hp 1003) → Q r hp' sh')) : qb_R M cs ss sh pc L st hp Q := by
  intro p l e s m args below meth c D cI S n0 ad0 ad A H locs ls hC hW hS hL hst hN T hT X
  obtain ⟨t, h1, o, h2, h3, ⟨⟨r, hp', sh', ad', q1, q2, q3, q4, q5⟩, q6⟩, h5⟩ := h p l e s m args below meth c D cI S n0 ad0 ad A H locs ls hC hW hS hL hst hN T hT X
  exact ⟨t, h1, o, h2, h3, ⟨⟨r, hp', sh', ad', q1, q2 ⟨q5.2.2.2.1.trans hN.2.2.2.1.symm, q5.2.2.2.2.1.trans hN.2.2.2.2.1.symm⟩, q3, q4, q5⟩, q6⟩, h5⟩
def lw_B (i : Int) (hp : qb_H) : Prop := 0 ≤ i ∧ i + 6 ≤ hp 1003 0 ∧ hp 1003 0 ≤ 3072
theorem lw_B.go {i : Int} {hp hq : qb_H} (b : lw_B i hp) (e : hq 1003 = hp 1003) : lw_B i hq := by unfold lw_B at b ⊢; rw [e]; exact b
abbrev lw_L (i : Int) : List (Option qb_V) := [some (.inr (.inl 1002)), some (.inr (.inl 0)), some (.inr (.inl 60)), some (.inl i)]
section
variable {pc pc' : Nat} {i : Int} {st rest : List qb_V} {hp : qb_H} {Q : Option qb_V → qb_H → qb_Sh → Prop}
theorem lw_arg {j x : Int} (d0 : decode (qb_by mL_law) pc = .ok (.aload_n 0, 1)) (d1 : decode (qb_by mL_law) (pc + 1) = .ok (.iload_n 3, 1)) (d2 : decode (qb_by mL_law) (pc + 2) = .ok (.iconst j, 1)) (d3 : decode (qb_by mL_law) (pc + 3) = .ok (.iadd, 1)) (d4 : decode (qb_by mL_law) (pc + 4) = .ok (.iaload, 1)) (hpc : pc + 5 = pc') (hj : 0 ≤ j ∧ j ≤ 5) (b : lw_B i hp) (e : hp 1002 (i + j) = x)
    (kk : qb_R mL_law 89 14813 qb_sh pc' (lw_L i) (.inl x :: st) hp Q) : qb_R mL_law 89 14813 qb_sh pc (lw_L i) st hp Q := by
  obtain ⟨b0, b1, b2⟩ := b
  subst hpc e
  refine qb_aloadn d0 rfl (i := 0) rfl rfl ?_
  refine qb_iloadn d1 rfl (i := 3) rfl rfl ?_
  refine qb_iconst d2 rfl (by rw [Bool.and_eq_true, decide_eq_true_iff, decide_eq_true_iff]; omega) ?_
  refine qb_iadd d3 rfl ⟨by omega, by omega⟩ ?_
  exact qb_sld d4 rfl (by omega) (by omega) kk
theorem lw_bool {x y : Int} (d0 : decode (qb_by mL_law) pc = .ok (.ifCond .eq 7, 3)) (d1 : decode (qb_by mL_law) (pc + 3) = .ok (.iconst 1, 1)) (d2 : decode (qb_by mL_law) (pc + 4) = .ok (.goto 4, 3)) (d3 : decode (qb_by mL_law) (pc + 7) = .ok (.iconst 0, 1)) (hpc : pc + 8 = pc') (e : (if x = 0 then 0 else 1) = y)
    (kk : qb_R mL_law 89 14813 qb_sh pc' (lw_L i) (.inl y :: st) hp Q) : qb_R mL_law 89 14813 qb_sh pc (lw_L i) (.inl x :: st) hp Q := by
  subst hpc
  refine qb_feq d0 rfl (tgt := pc + 7) (by omega) (fun h => ?_) (fun h => ?_)
  · rw [if_pos h] at e; subst e
    exact qb_iconst d3 rfl (by decide) kk
  · rw [if_neg h] at e; subst e
    refine qb_iconst d1 rfl (by decide) ?_
    exact qb_goto d2 (tgt := pc + 8) (by omega) kk
theorem lw_call {N : qb_M} {idx n b ci : Nat} {as : List qb_V} {sl : List (Option (Option Nat))} {Tb : u_T} {Nf : Nat} {K : Int → qb_H → Prop} (d : decode (qb_by mL_law) pc = .ok (.invokevirtual idx, 3)) (hpc : pc + 3 = pc') (cw : qb_CV mL_law N idx n) (hn : as.length = n) (hst' : st = as.reverse ++ (.inr (.inl b) :: rest)) (hs : qb_sh[b]? = some (.inl (ci, sl))) (hci : vwCl[ci]? = some ((qb_nm N).cls, Tb, Nf)) (hnl : (as.all fun v => qb_cat v == 1) = true) (hml : as.length + 1 ≤ qb_ml N) (hr : (rest.map qb_cat).sum ≤ 8) (h0 : qb_mc N = 0 ∧ qb_ms N = 0)
    (h : qb_R N 0 0 qb_sh 0 ((.inr (.inl b) :: as).map some ++ List.replicate (qb_ml N - (as.length + 1)) none) [] hp (qb_I qb_sh K)) (k : ∀ v hp', hp' 1002 = hp 1002 → hp' 1003 = hp 1003 → K v hp' → qb_R mL_law 89 14813 qb_sh pc' (lw_L i) (.inl v :: rest) hp' Q) : qb_R mL_law 89 14813 qb_sh pc (lw_L i) st hp Q := by
  subst hpc
  refine qb_callV d cw hn hst' hs hci hnl hml ⟨hr, by rw [h0.1]; decide, by rw [h0.2]; decide⟩ (qb_keep (qb_mono h ?_))
  intro r hp' sh' hz hk
  obtain ⟨h1, v, h2, h3⟩ := hz
  subst h1 h2
  exact qb_0 h0 (k v hp' hk.1 hk.2 h3)
theorem lw_and (x : Int) : ∃ j : Nat, j < 32 ∧ qb_and x 31 = (j : Int) := by
  have e : ((Int32.ofInt x &&& Int32.ofInt 31).toBitVec).toNat = (Int32.ofInt x).toBitVec.toNat &&& 31 := by
    rw [Int32.toBitVec_and, BitVec.toNat_and]; rfl
  have hl : (Int32.ofInt x).toBitVec.toNat &&& 31 ≤ 31 := Nat.and_le_right
  refine ⟨(Int32.ofInt x).toBitVec.toNat &&& 31, by omega, ?_⟩
  show (Int32.ofInt x &&& Int32.ofInt 31).toBitVec.toInt = _
  rw [bt_to (by omega), e]
theorem lc_say (h : Inv hp) (b : lw_B i hp) (kn : ∀ hq, Inv hq → hq 1002 = hp 1002 → hq 1003 = hp 1003 → qb_R mL_law 89 14813 qb_sh 1348 (lw_L i) [] hq Q) : qb_R mL_law 89 14813 qb_sh 176 (lw_L i) [] hp Q := by
  refine qb_aloadn dL_law_176 rfl (i := 1) rfl rfl ?_
  refine lw_arg (j := 1) (x := (hp 1002 (i + 1))) dL_law_177 dL_law_178 dL_law_179 dL_law_180 dL_law_181 rfl (by decide) b rfl ?_
  refine lw_call dL_law_182 rfl qe_mL_law_mX10_say (as := [.inl (hp 1002 (i + 1))]) (b := 0) (rest := []) rfl rfl qb_s0 rfl rfl (Nat.le_of_ble_eq_true rfl) (Nat.le_of_ble_eq_true rfl) ⟨rfl, rfl⟩ (K := fun v hp1 => c_m_say (hp 1002 (i + 1)) hp1 (fun w hp2 => v = w ∧ Inv hp2)) (call_say (hp 1002 (i + 1)) h (K := fun v w hq => v = w ∧ Inv hq) (fun v hq hi => ⟨rfl, hi⟩)) (fun v hp1 e2 e3 k1 => ?_)
  refine qb_aloadn dL_law_185 rfl (i := 2) rfl rfl ?_
  refine lw_arg (j := 1) (x := (hp 1002 (i + 1))) dL_law_186 dL_law_187 dL_law_188 dL_law_189 dL_law_190 rfl (by decide) (b.go e3) (congrFun e2 _) ?_
  refine lw_call dL_law_191 rfl qe_mL_law_mX11_say (as := [.inl (hp 1002 (i + 1))]) (b := 60) (rest := [.inl v]) rfl rfl qb_s60 rfl rfl (Nat.le_of_ble_eq_true rfl) (Nat.le_of_ble_eq_true rfl) ⟨rfl, rfl⟩ (K := fun w hp2 => v = w ∧ Inv hp2) k1 (fun w hp2 e2' e3' k2 => ?_)
  exact qb_ceq dL_law_194 rfl (tgt := 1348) rfl (fun _ => kn hp2 k2.2 (e2'.trans e2) (e3'.trans e3)) (fun hne => absurd k2.1 hne)
theorem lc_wipe (h : Inv hp) (b : lw_B i hp) (kn : ∀ hq, Inv hq → hq 1002 = hp 1002 → hq 1003 = hp 1003 → qb_R mL_law 89 14813 qb_sh 1348 (lw_L i) [] hq Q) : qb_R mL_law 89 14813 qb_sh 199 (lw_L i) [] hp Q := by
  refine qb_aloadn dL_law_199 rfl (i := 1) rfl rfl ?_
  refine lw_call dL_law_200 rfl qe_mL_law_mX10_wipe (as := []) (b := 0) (rest := []) rfl rfl qb_s0 rfl rfl (Nat.le_of_ble_eq_true rfl) (Nat.le_of_ble_eq_true rfl) ⟨rfl, rfl⟩ (K := fun v hp1 => c_m_wipe hp1 (fun w hp2 => v = w ∧ Inv hp2)) (call_wipe h (K := fun v w hq => v = w ∧ Inv hq) (fun v hq hi => ⟨rfl, hi⟩)) (fun v hp1 e2 e3 k1 => ?_)
  refine qb_aloadn dL_law_203 rfl (i := 2) rfl rfl ?_
  refine lw_call dL_law_204 rfl qe_mL_law_mX11_wipe (as := []) (b := 60) (rest := [.inl v]) rfl rfl qb_s60 rfl rfl (Nat.le_of_ble_eq_true rfl) (Nat.le_of_ble_eq_true rfl) ⟨rfl, rfl⟩ (K := fun w hp2 => v = w ∧ Inv hp2) k1 (fun w hp2 e2' e3' k2 => ?_)
  exact qb_ceq dL_law_207 rfl (tgt := 1348) rfl (fun _ => kn hp2 k2.2 (e2'.trans e2) (e3'.trans e3)) (fun hne => absurd k2.1 hne)
theorem lc_fault (h : Inv hp) (b : lw_B i hp) (kn : ∀ hq, Inv hq → hq 1002 = hp 1002 → hq 1003 = hp 1003 → qb_R mL_law 89 14813 qb_sh 1348 (lw_L i) [] hq Q) : qb_R mL_law 89 14813 qb_sh 212 (lw_L i) [] hp Q := by
  refine qb_aloadn dL_law_212 rfl (i := 1) rfl rfl ?_
  refine lw_call dL_law_213 rfl qe_mL_law_mX10_fault (as := []) (b := 0) (rest := []) rfl rfl qb_s0 rfl rfl (Nat.le_of_ble_eq_true rfl) (Nat.le_of_ble_eq_true rfl) ⟨rfl, rfl⟩ (K := fun v hp1 => c_m_fault hp1 (fun w hp2 => v = w ∧ Inv hp2)) (call_fault h (K := fun v w hq => v = w ∧ Inv hq) (fun v hq hi => ⟨rfl, hi⟩)) (fun v hp1 e2 e3 k1 => ?_)
  refine qb_aloadn dL_law_216 rfl (i := 2) rfl rfl ?_
  refine lw_call dL_law_217 rfl qe_mL_law_mX11_fault (as := []) (b := 60) (rest := [.inl v]) rfl rfl qb_s60 rfl rfl (Nat.le_of_ble_eq_true rfl) (Nat.le_of_ble_eq_true rfl) ⟨rfl, rfl⟩ (K := fun w hp2 => v = w ∧ Inv hp2) k1 (fun w hp2 e2' e3' k2 => ?_)
  exact qb_ceq dL_law_220 rfl (tgt := 1348) rfl (fun _ => kn hp2 k2.2 (e2'.trans e2) (e3'.trans e3)) (fun hne => absurd k2.1 hne)
theorem lc_act (h : Inv hp) (b : lw_B i hp) (kn : ∀ hq, Inv hq → hq 1002 = hp 1002 → hq 1003 = hp 1003 → qb_R mL_law 89 14813 qb_sh 1348 (lw_L i) [] hq Q) : qb_R mL_law 89 14813 qb_sh 225 (lw_L i) [] hp Q := by
  refine qb_aloadn dL_law_225 rfl (i := 1) rfl rfl ?_
  refine lw_arg (j := 1) (x := (hp 1002 (i + 1))) dL_law_226 dL_law_227 dL_law_228 dL_law_229 dL_law_230 rfl (by decide) b rfl ?_
  refine lw_call dL_law_231 rfl qe_mL_law_mX10_act (as := [.inl (hp 1002 (i + 1))]) (b := 0) (rest := []) rfl rfl qb_s0 rfl rfl (Nat.le_of_ble_eq_true rfl) (Nat.le_of_ble_eq_true rfl) ⟨rfl, rfl⟩ (K := fun v hp1 => c_m_act (hp 1002 (i + 1)) hp1 (fun w hp2 => v = w ∧ Inv hp2)) (call_act (hp 1002 (i + 1)) h (K := fun v w hq => v = w ∧ Inv hq) (fun v hq hi => ⟨rfl, hi⟩)) (fun v hp1 e2 e3 k1 => ?_)
  refine qb_aloadn dL_law_234 rfl (i := 2) rfl rfl ?_
  refine lw_arg (j := 1) (x := (hp 1002 (i + 1))) dL_law_235 dL_law_236 dL_law_237 dL_law_238 dL_law_239 rfl (by decide) (b.go e3) (congrFun e2 _) ?_
  refine lw_call dL_law_240 rfl qe_mL_law_mX11_act (as := [.inl (hp 1002 (i + 1))]) (b := 60) (rest := [.inl v]) rfl rfl qb_s60 rfl rfl (Nat.le_of_ble_eq_true rfl) (Nat.le_of_ble_eq_true rfl) ⟨rfl, rfl⟩ (K := fun w hp2 => v = w ∧ Inv hp2) k1 (fun w hp2 e2' e3' k2 => ?_)
  exact qb_ceq dL_law_243 rfl (tgt := 1348) rfl (fun _ => kn hp2 k2.2 (e2'.trans e2) (e3'.trans e3)) (fun hne => absurd k2.1 hne)
theorem lc_brand (h : Inv hp) (b : lw_B i hp) (kn : ∀ hq, Inv hq → hq 1002 = hp 1002 → hq 1003 = hp 1003 → qb_R mL_law 89 14813 qb_sh 1348 (lw_L i) [] hq Q) : qb_R mL_law 89 14813 qb_sh 248 (lw_L i) [] hp Q := by
  refine qb_aloadn dL_law_248 rfl (i := 1) rfl rfl ?_
  refine lw_arg (j := 1) (x := (hp 1002 (i + 1))) dL_law_249 dL_law_250 dL_law_251 dL_law_252 dL_law_253 rfl (by decide) b rfl ?_
  refine lw_arg (j := 2) (x := (hp 1002 (i + 2))) dL_law_254 dL_law_255 dL_law_256 dL_law_257 dL_law_258 rfl (by decide) b rfl ?_
  refine lw_arg (j := 3) (x := (hp 1002 (i + 3))) dL_law_259 dL_law_260 dL_law_261 dL_law_262 dL_law_263 rfl (by decide) b rfl ?_
  refine lw_call dL_law_264 rfl qe_mL_law_mX10_brand (as := [.inl (hp 1002 (i + 1)), .inl (hp 1002 (i + 2)), .inl (hp 1002 (i + 3))]) (b := 0) (rest := []) rfl rfl qb_s0 rfl rfl (Nat.le_of_ble_eq_true rfl) (Nat.le_of_ble_eq_true rfl) ⟨rfl, rfl⟩ (K := fun v hp1 => c_m_brand (hp 1002 (i + 1)) (hp 1002 (i + 2)) (hp 1002 (i + 3)) hp1 (fun w hp2 => v = w ∧ Inv hp2)) (call_brand (hp 1002 (i + 1)) (hp 1002 (i + 2)) (hp 1002 (i + 3)) h (K := fun v w hq => v = w ∧ Inv hq) (fun v hq hi => ⟨rfl, hi⟩)) (fun v hp1 e2 e3 k1 => ?_)
  refine qb_aloadn dL_law_267 rfl (i := 2) rfl rfl ?_
  refine lw_arg (j := 1) (x := (hp 1002 (i + 1))) dL_law_268 dL_law_269 dL_law_270 dL_law_271 dL_law_272 rfl (by decide) (b.go e3) (congrFun e2 _) ?_
  refine lw_arg (j := 2) (x := (hp 1002 (i + 2))) dL_law_273 dL_law_274 dL_law_275 dL_law_276 dL_law_277 rfl (by decide) (b.go e3) (congrFun e2 _) ?_
  refine lw_arg (j := 3) (x := (hp 1002 (i + 3))) dL_law_278 dL_law_279 dL_law_280 dL_law_281 dL_law_282 rfl (by decide) (b.go e3) (congrFun e2 _) ?_
  refine lw_call dL_law_283 rfl qe_mL_law_mX11_brand (as := [.inl (hp 1002 (i + 1)), .inl (hp 1002 (i + 2)), .inl (hp 1002 (i + 3))]) (b := 60) (rest := [.inl v]) rfl rfl qb_s60 rfl rfl (Nat.le_of_ble_eq_true rfl) (Nat.le_of_ble_eq_true rfl) ⟨rfl, rfl⟩ (K := fun w hp2 => v = w ∧ Inv hp2) k1 (fun w hp2 e2' e3' k2 => ?_)
  exact qb_ceq dL_law_286 rfl (tgt := 1348) rfl (fun _ => kn hp2 k2.2 (e2'.trans e2) (e3'.trans e3)) (fun hne => absurd k2.1 hne)
theorem lc_grade (h : Inv hp) (b : lw_B i hp) (kn : ∀ hq, Inv hq → hq 1002 = hp 1002 → hq 1003 = hp 1003 → qb_R mL_law 89 14813 qb_sh 1348 (lw_L i) [] hq Q) : qb_R mL_law 89 14813 qb_sh 291 (lw_L i) [] hp Q := by
  refine qb_aloadn dL_law_291 rfl (i := 1) rfl rfl ?_
  refine lw_arg (j := 1) (x := (hp 1002 (i + 1))) dL_law_292 dL_law_293 dL_law_294 dL_law_295 dL_law_296 rfl (by decide) b rfl ?_
  refine lw_arg (j := 2) (x := (hp 1002 (i + 2))) dL_law_297 dL_law_298 dL_law_299 dL_law_300 dL_law_301 rfl (by decide) b rfl ?_
  refine lw_call dL_law_302 rfl qe_mL_law_mX10_grade (as := [.inl (hp 1002 (i + 1)), .inl (hp 1002 (i + 2))]) (b := 0) (rest := []) rfl rfl qb_s0 rfl rfl (Nat.le_of_ble_eq_true rfl) (Nat.le_of_ble_eq_true rfl) ⟨rfl, rfl⟩ (K := fun v hp1 => c_m_grade (hp 1002 (i + 1)) (hp 1002 (i + 2)) hp1 (fun w hp2 => v = w ∧ Inv hp2)) (call_grade (hp 1002 (i + 1)) (hp 1002 (i + 2)) h (K := fun v w hq => v = w ∧ Inv hq) (fun v hq hi => ⟨rfl, hi⟩)) (fun v hp1 e2 e3 k1 => ?_)
  refine qb_aloadn dL_law_305 rfl (i := 2) rfl rfl ?_
  refine lw_arg (j := 1) (x := (hp 1002 (i + 1))) dL_law_306 dL_law_307 dL_law_308 dL_law_309 dL_law_310 rfl (by decide) (b.go e3) (congrFun e2 _) ?_
  refine lw_arg (j := 2) (x := (hp 1002 (i + 2))) dL_law_311 dL_law_312 dL_law_313 dL_law_314 dL_law_315 rfl (by decide) (b.go e3) (congrFun e2 _) ?_
  refine lw_call dL_law_316 rfl qe_mL_law_mX11_grade (as := [.inl (hp 1002 (i + 1)), .inl (hp 1002 (i + 2))]) (b := 60) (rest := [.inl v]) rfl rfl qb_s60 rfl rfl (Nat.le_of_ble_eq_true rfl) (Nat.le_of_ble_eq_true rfl) ⟨rfl, rfl⟩ (K := fun w hp2 => v = w ∧ Inv hp2) k1 (fun w hp2 e2' e3' k2 => ?_)
  exact qb_ceq dL_law_319 rfl (tgt := 1348) rfl (fun _ => kn hp2 k2.2 (e2'.trans e2) (e3'.trans e3)) (fun hne => absurd k2.1 hne)
theorem lc_set (h : Inv hp) (b : lw_B i hp) (kn : ∀ hq, Inv hq → hq 1002 = hp 1002 → hq 1003 = hp 1003 → qb_R mL_law 89 14813 qb_sh 1348 (lw_L i) [] hq Q) : qb_R mL_law 89 14813 qb_sh 324 (lw_L i) [] hp Q := by
  refine qb_aloadn dL_law_324 rfl (i := 1) rfl rfl ?_
  refine lw_arg (j := 1) (x := (hp 1002 (i + 1))) dL_law_325 dL_law_326 dL_law_327 dL_law_328 dL_law_329 rfl (by decide) b rfl ?_
  refine lw_arg (j := 2) (x := (hp 1002 (i + 2))) dL_law_330 dL_law_331 dL_law_332 dL_law_333 dL_law_334 rfl (by decide) b rfl ?_
  refine lw_arg (j := 3) (x := (hp 1002 (i + 3))) dL_law_335 dL_law_336 dL_law_337 dL_law_338 dL_law_339 rfl (by decide) b rfl ?_
  refine lw_call dL_law_340 rfl qe_mL_law_mX10_set (as := [.inl (hp 1002 (i + 1)), .inl (hp 1002 (i + 2)), .inl (hp 1002 (i + 3))]) (b := 0) (rest := []) rfl rfl qb_s0 rfl rfl (Nat.le_of_ble_eq_true rfl) (Nat.le_of_ble_eq_true rfl) ⟨rfl, rfl⟩ (K := fun v hp1 => c_m_set (hp 1002 (i + 1)) (hp 1002 (i + 2)) (hp 1002 (i + 3)) hp1 (fun w hp2 => v = w ∧ Inv hp2)) (call_set (hp 1002 (i + 1)) (hp 1002 (i + 2)) (hp 1002 (i + 3)) h (K := fun v w hq => v = w ∧ Inv hq) (fun v hq hi => ⟨rfl, hi⟩)) (fun v hp1 e2 e3 k1 => ?_)
  refine qb_aloadn dL_law_343 rfl (i := 2) rfl rfl ?_
  refine lw_arg (j := 1) (x := (hp 1002 (i + 1))) dL_law_344 dL_law_345 dL_law_346 dL_law_347 dL_law_348 rfl (by decide) (b.go e3) (congrFun e2 _) ?_
  refine lw_arg (j := 2) (x := (hp 1002 (i + 2))) dL_law_349 dL_law_350 dL_law_351 dL_law_352 dL_law_353 rfl (by decide) (b.go e3) (congrFun e2 _) ?_
  refine lw_arg (j := 3) (x := (hp 1002 (i + 3))) dL_law_354 dL_law_355 dL_law_356 dL_law_357 dL_law_358 rfl (by decide) (b.go e3) (congrFun e2 _) ?_
  refine lw_call dL_law_359 rfl qe_mL_law_mX11_set (as := [.inl (hp 1002 (i + 1)), .inl (hp 1002 (i + 2)), .inl (hp 1002 (i + 3))]) (b := 60) (rest := [.inl v]) rfl rfl qb_s60 rfl rfl (Nat.le_of_ble_eq_true rfl) (Nat.le_of_ble_eq_true rfl) ⟨rfl, rfl⟩ (K := fun w hp2 => v = w ∧ Inv hp2) k1 (fun w hp2 e2' e3' k2 => ?_)
  exact qb_ceq dL_law_362 rfl (tgt := 1348) rfl (fun _ => kn hp2 k2.2 (e2'.trans e2) (e3'.trans e3)) (fun hne => absurd k2.1 hne)
theorem lc_rule (h : Inv hp) (b : lw_B i hp) (kn : ∀ hq, Inv hq → hq 1002 = hp 1002 → hq 1003 = hp 1003 → qb_R mL_law 89 14813 qb_sh 1348 (lw_L i) [] hq Q) : qb_R mL_law 89 14813 qb_sh 367 (lw_L i) [] hp Q := by
  refine qb_aloadn dL_law_367 rfl (i := 1) rfl rfl ?_
  refine lw_arg (j := 1) (x := (hp 1002 (i + 1))) dL_law_368 dL_law_369 dL_law_370 dL_law_371 dL_law_372 rfl (by decide) b rfl ?_
  refine lw_arg (j := 2) (x := (hp 1002 (i + 2))) dL_law_373 dL_law_374 dL_law_375 dL_law_376 dL_law_377 rfl (by decide) b rfl ?_
  refine lw_call dL_law_378 rfl qe_mL_law_mX10_rule (as := [.inl (hp 1002 (i + 1)), .inl (hp 1002 (i + 2))]) (b := 0) (rest := []) rfl rfl qb_s0 rfl rfl (Nat.le_of_ble_eq_true rfl) (Nat.le_of_ble_eq_true rfl) ⟨rfl, rfl⟩ (K := fun v hp1 => c_m_rule (hp 1002 (i + 1)) (hp 1002 (i + 2)) hp1 (fun w hp2 => v = w ∧ Inv hp2)) (call_rule (hp 1002 (i + 1)) (hp 1002 (i + 2)) h (K := fun v w hq => v = w ∧ Inv hq) (fun v hq hi => ⟨rfl, hi⟩)) (fun v hp1 e2 e3 k1 => ?_)
  refine qb_aloadn dL_law_381 rfl (i := 2) rfl rfl ?_
  refine lw_arg (j := 1) (x := (hp 1002 (i + 1))) dL_law_382 dL_law_383 dL_law_384 dL_law_385 dL_law_386 rfl (by decide) (b.go e3) (congrFun e2 _) ?_
  refine lw_arg (j := 2) (x := (hp 1002 (i + 2))) dL_law_387 dL_law_388 dL_law_389 dL_law_390 dL_law_391 rfl (by decide) (b.go e3) (congrFun e2 _) ?_
  refine lw_call dL_law_392 rfl qe_mL_law_mX11_rule (as := [.inl (hp 1002 (i + 1)), .inl (hp 1002 (i + 2))]) (b := 60) (rest := [.inl v]) rfl rfl qb_s60 rfl rfl (Nat.le_of_ble_eq_true rfl) (Nat.le_of_ble_eq_true rfl) ⟨rfl, rfl⟩ (K := fun w hp2 => v = w ∧ Inv hp2) k1 (fun w hp2 e2' e3' k2 => ?_)
  exact qb_ceq dL_law_395 rfl (tgt := 1348) rfl (fun _ => kn hp2 k2.2 (e2'.trans e2) (e3'.trans e3)) (fun hne => absurd k2.1 hne)
theorem lc_land (h : Inv hp) (b : lw_B i hp) (kn : ∀ hq, Inv hq → hq 1002 = hp 1002 → hq 1003 = hp 1003 → qb_R mL_law 89 14813 qb_sh 1348 (lw_L i) [] hq Q) : qb_R mL_law 89 14813 qb_sh 400 (lw_L i) [] hp Q := by
  refine qb_aloadn dL_law_400 rfl (i := 1) rfl rfl ?_
  refine lw_arg (j := 1) (x := (hp 1002 (i + 1))) dL_law_401 dL_law_402 dL_law_403 dL_law_404 dL_law_405 rfl (by decide) b rfl ?_
  refine lw_arg (j := 2) (x := (hp 1002 (i + 2))) dL_law_406 dL_law_407 dL_law_408 dL_law_409 dL_law_410 rfl (by decide) b rfl ?_
  refine lw_arg (j := 3) (x := (hp 1002 (i + 3))) dL_law_411 dL_law_412 dL_law_413 dL_law_414 dL_law_415 rfl (by decide) b rfl ?_
  refine lw_arg (j := 4) (x := (hp 1002 (i + 4))) dL_law_416 dL_law_417 dL_law_418 dL_law_419 dL_law_420 rfl (by decide) b rfl ?_
  refine lw_arg (j := 5) (x := (hp 1002 (i + 5))) dL_law_421 dL_law_422 dL_law_423 dL_law_424 dL_law_425 rfl (by decide) b rfl ?_
  refine lw_call dL_law_426 rfl qe_mL_law_mX10_land (as := [.inl (hp 1002 (i + 1)), .inl (hp 1002 (i + 2)), .inl (hp 1002 (i + 3)), .inl (hp 1002 (i + 4)), .inl (hp 1002 (i + 5))]) (b := 0) (rest := []) rfl rfl qb_s0 rfl rfl (Nat.le_of_ble_eq_true rfl) (Nat.le_of_ble_eq_true rfl) ⟨rfl, rfl⟩ (K := fun v hp1 => c_m_land (hp 1002 (i + 1)) (hp 1002 (i + 2)) (hp 1002 (i + 3)) (hp 1002 (i + 4)) (hp 1002 (i + 5)) hp1 (fun w hp2 => v = w ∧ Inv hp2)) (call_land (hp 1002 (i + 1)) (hp 1002 (i + 2)) (hp 1002 (i + 3)) (hp 1002 (i + 4)) (hp 1002 (i + 5)) h (K := fun v w hq => v = w ∧ Inv hq) (fun v hq hi => ⟨rfl, hi⟩)) (fun v hp1 e2 e3 k1 => ?_)
  refine qb_aloadn dL_law_429 rfl (i := 2) rfl rfl ?_
  refine lw_arg (j := 1) (x := (hp 1002 (i + 1))) dL_law_430 dL_law_431 dL_law_432 dL_law_433 dL_law_434 rfl (by decide) (b.go e3) (congrFun e2 _) ?_
  refine lw_arg (j := 2) (x := (hp 1002 (i + 2))) dL_law_435 dL_law_436 dL_law_437 dL_law_438 dL_law_439 rfl (by decide) (b.go e3) (congrFun e2 _) ?_
  refine lw_arg (j := 3) (x := (hp 1002 (i + 3))) dL_law_440 dL_law_441 dL_law_442 dL_law_443 dL_law_444 rfl (by decide) (b.go e3) (congrFun e2 _) ?_
  refine lw_arg (j := 4) (x := (hp 1002 (i + 4))) dL_law_445 dL_law_446 dL_law_447 dL_law_448 dL_law_449 rfl (by decide) (b.go e3) (congrFun e2 _) ?_
  refine lw_arg (j := 5) (x := (hp 1002 (i + 5))) dL_law_450 dL_law_451 dL_law_452 dL_law_453 dL_law_454 rfl (by decide) (b.go e3) (congrFun e2 _) ?_
  refine lw_call dL_law_455 rfl qe_mL_law_mX11_land (as := [.inl (hp 1002 (i + 1)), .inl (hp 1002 (i + 2)), .inl (hp 1002 (i + 3)), .inl (hp 1002 (i + 4)), .inl (hp 1002 (i + 5))]) (b := 60) (rest := [.inl v]) rfl rfl qb_s60 rfl rfl (Nat.le_of_ble_eq_true rfl) (Nat.le_of_ble_eq_true rfl) ⟨rfl, rfl⟩ (K := fun w hp2 => v = w ∧ Inv hp2) k1 (fun w hp2 e2' e3' k2 => ?_)
  exact qb_ceq dL_law_458 rfl (tgt := 1348) rfl (fun _ => kn hp2 k2.2 (e2'.trans e2) (e3'.trans e3)) (fun hne => absurd k2.1 hne)
theorem lc_lead (h : Inv hp) (b : lw_B i hp) (kn : ∀ hq, Inv hq → hq 1002 = hp 1002 → hq 1003 = hp 1003 → qb_R mL_law 89 14813 qb_sh 1348 (lw_L i) [] hq Q) : qb_R mL_law 89 14813 qb_sh 463 (lw_L i) [] hp Q := by
  refine qb_aloadn dL_law_463 rfl (i := 1) rfl rfl ?_
  refine lw_arg (j := 1) (x := (hp 1002 (i + 1))) dL_law_464 dL_law_465 dL_law_466 dL_law_467 dL_law_468 rfl (by decide) b rfl ?_
  refine lw_arg (j := 2) (x := (hp 1002 (i + 2))) dL_law_469 dL_law_470 dL_law_471 dL_law_472 dL_law_473 rfl (by decide) b rfl ?_
  refine lw_call dL_law_474 rfl qe_mL_law_mX10_lead (as := [.inl (hp 1002 (i + 1)), .inl (hp 1002 (i + 2))]) (b := 0) (rest := []) rfl rfl qb_s0 rfl rfl (Nat.le_of_ble_eq_true rfl) (Nat.le_of_ble_eq_true rfl) ⟨rfl, rfl⟩ (K := fun v hp1 => c_m_lead (hp 1002 (i + 1)) (hp 1002 (i + 2)) hp1 (fun w hp2 => v = w ∧ Inv hp2)) (call_lead (hp 1002 (i + 1)) (hp 1002 (i + 2)) h (K := fun v w hq => v = w ∧ Inv hq) (fun v hq hi => ⟨rfl, hi⟩)) (fun v hp1 e2 e3 k1 => ?_)
  refine qb_aloadn dL_law_477 rfl (i := 2) rfl rfl ?_
  refine lw_arg (j := 1) (x := (hp 1002 (i + 1))) dL_law_478 dL_law_479 dL_law_480 dL_law_481 dL_law_482 rfl (by decide) (b.go e3) (congrFun e2 _) ?_
  refine lw_arg (j := 2) (x := (hp 1002 (i + 2))) dL_law_483 dL_law_484 dL_law_485 dL_law_486 dL_law_487 rfl (by decide) (b.go e3) (congrFun e2 _) ?_
  refine lw_call dL_law_488 rfl qe_mL_law_mX11_lead (as := [.inl (hp 1002 (i + 1)), .inl (hp 1002 (i + 2))]) (b := 60) (rest := [.inl v]) rfl rfl qb_s60 rfl rfl (Nat.le_of_ble_eq_true rfl) (Nat.le_of_ble_eq_true rfl) ⟨rfl, rfl⟩ (K := fun w hp2 => v = w ∧ Inv hp2) k1 (fun w hp2 e2' e3' k2 => ?_)
  exact qb_ceq dL_law_491 rfl (tgt := 1348) rfl (fun _ => kn hp2 k2.2 (e2'.trans e2) (e3'.trans e3)) (fun hne => absurd k2.1 hne)
theorem lc_landing (h : Inv hp) (b : lw_B i hp) (kn : ∀ hq, Inv hq → hq 1002 = hp 1002 → hq 1003 = hp 1003 → qb_R mL_law 89 14813 qb_sh 1348 (lw_L i) [] hq Q) : qb_R mL_law 89 14813 qb_sh 496 (lw_L i) [] hp Q := by
  refine qb_aloadn dL_law_496 rfl (i := 1) rfl rfl ?_
  refine lw_arg (j := 1) (x := (hp 1002 (i + 1))) dL_law_497 dL_law_498 dL_law_499 dL_law_500 dL_law_501 rfl (by decide) b rfl ?_
  refine lw_arg (j := 2) (x := (hp 1002 (i + 2))) dL_law_502 dL_law_503 dL_law_504 dL_law_505 dL_law_506 rfl (by decide) b rfl ?_
  refine lw_call dL_law_507 rfl qe_mL_law_mX10_landing (as := [.inl (hp 1002 (i + 1)), .inl (hp 1002 (i + 2))]) (b := 0) (rest := []) rfl rfl qb_s0 rfl rfl (Nat.le_of_ble_eq_true rfl) (Nat.le_of_ble_eq_true rfl) ⟨rfl, rfl⟩ (K := fun v hp1 => c_m_landing (hp 1002 (i + 1)) (hp 1002 (i + 2)) hp1 (fun w hp2 => v = w ∧ Inv hp2)) (call_landing (hp 1002 (i + 1)) (hp 1002 (i + 2)) h (K := fun v w hq => v = w ∧ Inv hq) (fun v hq hi => ⟨rfl, hi⟩)) (fun v hp1 e2 e3 k1 => ?_)
  refine qb_aloadn dL_law_510 rfl (i := 2) rfl rfl ?_
  refine lw_arg (j := 1) (x := (hp 1002 (i + 1))) dL_law_511 dL_law_512 dL_law_513 dL_law_514 dL_law_515 rfl (by decide) (b.go e3) (congrFun e2 _) ?_
  refine lw_arg (j := 2) (x := (hp 1002 (i + 2))) dL_law_516 dL_law_517 dL_law_518 dL_law_519 dL_law_520 rfl (by decide) (b.go e3) (congrFun e2 _) ?_
  refine lw_call dL_law_521 rfl qe_mL_law_mX11_landing (as := [.inl (hp 1002 (i + 1)), .inl (hp 1002 (i + 2))]) (b := 60) (rest := [.inl v]) rfl rfl qb_s60 rfl rfl (Nat.le_of_ble_eq_true rfl) (Nat.le_of_ble_eq_true rfl) ⟨rfl, rfl⟩ (K := fun w hp2 => v = w ∧ Inv hp2) k1 (fun w hp2 e2' e3' k2 => ?_)
  exact qb_ceq dL_law_524 rfl (tgt := 1348) rfl (fun _ => kn hp2 k2.2 (e2'.trans e2) (e3'.trans e3)) (fun hne => absurd k2.1 hne)
theorem lc_salt (h : Inv hp) (b : lw_B i hp) (kn : ∀ hq, Inv hq → hq 1002 = hp 1002 → hq 1003 = hp 1003 → qb_R mL_law 89 14813 qb_sh 1348 (lw_L i) [] hq Q) : qb_R mL_law 89 14813 qb_sh 529 (lw_L i) [] hp Q := by
  refine qb_aloadn dL_law_529 rfl (i := 1) rfl rfl ?_
  refine lw_arg (j := 1) (x := (hp 1002 (i + 1))) dL_law_530 dL_law_531 dL_law_532 dL_law_533 dL_law_534 rfl (by decide) b rfl ?_
  refine lw_arg (j := 2) (x := (hp 1002 (i + 2))) dL_law_535 dL_law_536 dL_law_537 dL_law_538 dL_law_539 rfl (by decide) b rfl ?_
  refine lw_arg (j := 3) (x := (hp 1002 (i + 3))) dL_law_540 dL_law_541 dL_law_542 dL_law_543 dL_law_544 rfl (by decide) b rfl ?_
  refine lw_arg (j := 4) (x := (hp 1002 (i + 4))) dL_law_545 dL_law_546 dL_law_547 dL_law_548 dL_law_549 rfl (by decide) b rfl ?_
  refine lw_call dL_law_550 rfl qe_mL_law_mX10_salt (as := [.inl (hp 1002 (i + 1)), .inl (hp 1002 (i + 2)), .inl (hp 1002 (i + 3)), .inl (hp 1002 (i + 4))]) (b := 0) (rest := []) rfl rfl qb_s0 rfl rfl (Nat.le_of_ble_eq_true rfl) (Nat.le_of_ble_eq_true rfl) ⟨rfl, rfl⟩ (K := fun v hp1 => c_m_salt (hp 1002 (i + 1)) (hp 1002 (i + 2)) (hp 1002 (i + 3)) (hp 1002 (i + 4)) hp1 (fun w hp2 => v = w ∧ Inv hp2)) (call_salt (hp 1002 (i + 1)) (hp 1002 (i + 2)) (hp 1002 (i + 3)) (hp 1002 (i + 4)) h (K := fun v w hq => v = w ∧ Inv hq) (fun v hq hi => ⟨rfl, hi⟩)) (fun v hp1 e2 e3 k1 => ?_)
  refine qb_aloadn dL_law_553 rfl (i := 2) rfl rfl ?_
  refine lw_arg (j := 1) (x := (hp 1002 (i + 1))) dL_law_554 dL_law_555 dL_law_556 dL_law_557 dL_law_558 rfl (by decide) (b.go e3) (congrFun e2 _) ?_
  refine lw_arg (j := 2) (x := (hp 1002 (i + 2))) dL_law_559 dL_law_560 dL_law_561 dL_law_562 dL_law_563 rfl (by decide) (b.go e3) (congrFun e2 _) ?_
  refine lw_arg (j := 3) (x := (hp 1002 (i + 3))) dL_law_564 dL_law_565 dL_law_566 dL_law_567 dL_law_568 rfl (by decide) (b.go e3) (congrFun e2 _) ?_
  refine lw_arg (j := 4) (x := (hp 1002 (i + 4))) dL_law_569 dL_law_570 dL_law_571 dL_law_572 dL_law_573 rfl (by decide) (b.go e3) (congrFun e2 _) ?_
  refine lw_call dL_law_574 rfl qe_mL_law_mX11_salt (as := [.inl (hp 1002 (i + 1)), .inl (hp 1002 (i + 2)), .inl (hp 1002 (i + 3)), .inl (hp 1002 (i + 4))]) (b := 60) (rest := [.inl v]) rfl rfl qb_s60 rfl rfl (Nat.le_of_ble_eq_true rfl) (Nat.le_of_ble_eq_true rfl) ⟨rfl, rfl⟩ (K := fun w hp2 => v = w ∧ Inv hp2) k1 (fun w hp2 e2' e3' k2 => ?_)
  exact qb_ceq dL_law_577 rfl (tgt := 1348) rfl (fun _ => kn hp2 k2.2 (e2'.trans e2) (e3'.trans e3)) (fun hne => absurd k2.1 hne)
theorem lc_barrel (h : Inv hp) (b : lw_B i hp) (kn : ∀ hq, Inv hq → hq 1002 = hp 1002 → hq 1003 = hp 1003 → qb_R mL_law 89 14813 qb_sh 1348 (lw_L i) [] hq Q) : qb_R mL_law 89 14813 qb_sh 582 (lw_L i) [] hp Q := by
  refine qb_aloadn dL_law_582 rfl (i := 1) rfl rfl ?_
  refine lw_arg (j := 1) (x := (hp 1002 (i + 1))) dL_law_583 dL_law_584 dL_law_585 dL_law_586 dL_law_587 rfl (by decide) b rfl ?_
  refine lw_arg (j := 2) (x := (hp 1002 (i + 2))) dL_law_588 dL_law_589 dL_law_590 dL_law_591 dL_law_592 rfl (by decide) b rfl ?_
  refine lw_arg (j := 3) (x := (hp 1002 (i + 3))) dL_law_593 dL_law_594 dL_law_595 dL_law_596 dL_law_597 rfl (by decide) b rfl ?_
  refine lw_call dL_law_598 rfl qe_mL_law_mX10_barrel (as := [.inl (hp 1002 (i + 1)), .inl (hp 1002 (i + 2)), .inl (hp 1002 (i + 3))]) (b := 0) (rest := []) rfl rfl qb_s0 rfl rfl (Nat.le_of_ble_eq_true rfl) (Nat.le_of_ble_eq_true rfl) ⟨rfl, rfl⟩ (K := fun v hp1 => c_m_barrel (hp 1002 (i + 1)) (hp 1002 (i + 2)) (hp 1002 (i + 3)) hp1 (fun w hp2 => v = w ∧ Inv hp2)) (call_barrel (hp 1002 (i + 1)) (hp 1002 (i + 2)) (hp 1002 (i + 3)) h (K := fun v w hq => v = w ∧ Inv hq) (fun v hq hi => ⟨rfl, hi⟩)) (fun v hp1 e2 e3 k1 => ?_)
  refine qb_aloadn dL_law_601 rfl (i := 2) rfl rfl ?_
  refine lw_arg (j := 1) (x := (hp 1002 (i + 1))) dL_law_602 dL_law_603 dL_law_604 dL_law_605 dL_law_606 rfl (by decide) (b.go e3) (congrFun e2 _) ?_
  refine lw_arg (j := 2) (x := (hp 1002 (i + 2))) dL_law_607 dL_law_608 dL_law_609 dL_law_610 dL_law_611 rfl (by decide) (b.go e3) (congrFun e2 _) ?_
  refine lw_arg (j := 3) (x := (hp 1002 (i + 3))) dL_law_612 dL_law_613 dL_law_614 dL_law_615 dL_law_616 rfl (by decide) (b.go e3) (congrFun e2 _) ?_
  refine lw_call dL_law_617 rfl qe_mL_law_mX11_barrel (as := [.inl (hp 1002 (i + 1)), .inl (hp 1002 (i + 2)), .inl (hp 1002 (i + 3))]) (b := 60) (rest := [.inl v]) rfl rfl qb_s60 rfl rfl (Nat.le_of_ble_eq_true rfl) (Nat.le_of_ble_eq_true rfl) ⟨rfl, rfl⟩ (K := fun w hp2 => v = w ∧ Inv hp2) k1 (fun w hp2 e2' e3' k2 => ?_)
  exact qb_ceq dL_law_620 rfl (tgt := 1348) rfl (fun _ => kn hp2 k2.2 (e2'.trans e2) (e3'.trans e3)) (fun hne => absurd k2.1 hne)
theorem lc_filled (h : Inv hp) (b : lw_B i hp) (kn : ∀ hq, Inv hq → hq 1002 = hp 1002 → hq 1003 = hp 1003 → qb_R mL_law 89 14813 qb_sh 1348 (lw_L i) [] hq Q) : qb_R mL_law 89 14813 qb_sh 625 (lw_L i) [] hp Q := by
  refine qb_aloadn dL_law_625 rfl (i := 1) rfl rfl ?_
  refine lw_arg (j := 1) (x := (hp 1002 (i + 1))) dL_law_626 dL_law_627 dL_law_628 dL_law_629 dL_law_630 rfl (by decide) b rfl ?_
  refine lw_arg (j := 2) (x := (hp 1002 (i + 2))) dL_law_631 dL_law_632 dL_law_633 dL_law_634 dL_law_635 rfl (by decide) b rfl ?_
  refine lw_arg (j := 3) (x := (hp 1002 (i + 3))) dL_law_636 dL_law_637 dL_law_638 dL_law_639 dL_law_640 rfl (by decide) b rfl ?_
  refine lw_arg (j := 4) (x := (hp 1002 (i + 4))) dL_law_641 dL_law_642 dL_law_643 dL_law_644 dL_law_645 rfl (by decide) b rfl ?_
  refine lw_call dL_law_646 rfl qe_mL_law_mX10_filled (as := [.inl (hp 1002 (i + 1)), .inl (hp 1002 (i + 2)), .inl (hp 1002 (i + 3)), .inl (hp 1002 (i + 4))]) (b := 0) (rest := []) rfl rfl qb_s0 rfl rfl (Nat.le_of_ble_eq_true rfl) (Nat.le_of_ble_eq_true rfl) ⟨rfl, rfl⟩ (K := fun v hp1 => c_m_filled (hp 1002 (i + 1)) (hp 1002 (i + 2)) (hp 1002 (i + 3)) (hp 1002 (i + 4)) hp1 (fun w hp2 => v = w ∧ Inv hp2)) (call_filled (hp 1002 (i + 1)) (hp 1002 (i + 2)) (hp 1002 (i + 3)) (hp 1002 (i + 4)) h (K := fun v w hq => v = w ∧ Inv hq) (fun v hq hi => ⟨rfl, hi⟩)) (fun v hp1 e2 e3 k1 => ?_)
  refine qb_aloadn dL_law_649 rfl (i := 2) rfl rfl ?_
  refine lw_arg (j := 1) (x := (hp 1002 (i + 1))) dL_law_650 dL_law_651 dL_law_652 dL_law_653 dL_law_654 rfl (by decide) (b.go e3) (congrFun e2 _) ?_
  refine lw_arg (j := 2) (x := (hp 1002 (i + 2))) dL_law_655 dL_law_656 dL_law_657 dL_law_658 dL_law_659 rfl (by decide) (b.go e3) (congrFun e2 _) ?_
  refine lw_arg (j := 3) (x := (hp 1002 (i + 3))) dL_law_660 dL_law_661 dL_law_662 dL_law_663 dL_law_664 rfl (by decide) (b.go e3) (congrFun e2 _) ?_
  refine lw_arg (j := 4) (x := (hp 1002 (i + 4))) dL_law_665 dL_law_666 dL_law_667 dL_law_668 dL_law_669 rfl (by decide) (b.go e3) (congrFun e2 _) ?_
  refine lw_call dL_law_670 rfl qe_mL_law_mX11_filled (as := [.inl (hp 1002 (i + 1)), .inl (hp 1002 (i + 2)), .inl (hp 1002 (i + 3)), .inl (hp 1002 (i + 4))]) (b := 60) (rest := [.inl v]) rfl rfl qb_s60 rfl rfl (Nat.le_of_ble_eq_true rfl) (Nat.le_of_ble_eq_true rfl) ⟨rfl, rfl⟩ (K := fun w hp2 => v = w ∧ Inv hp2) k1 (fun w hp2 e2' e3' k2 => ?_)
  exact qb_ceq dL_law_673 rfl (tgt := 1348) rfl (fun _ => kn hp2 k2.2 (e2'.trans e2) (e3'.trans e3)) (fun hne => absurd k2.1 hne)
theorem lc_open (h : Inv hp) (b : lw_B i hp) (kn : ∀ hq, Inv hq → hq 1002 = hp 1002 → hq 1003 = hp 1003 → qb_R mL_law 89 14813 qb_sh 1348 (lw_L i) [] hq Q) : qb_R mL_law 89 14813 qb_sh 678 (lw_L i) [] hp Q := by
  refine qb_aloadn dL_law_678 rfl (i := 1) rfl rfl ?_
  refine lw_arg (j := 1) (x := (hp 1002 (i + 1))) dL_law_679 dL_law_680 dL_law_681 dL_law_682 dL_law_683 rfl (by decide) b rfl ?_
  refine lw_arg (j := 2) (x := (hp 1002 (i + 2))) dL_law_684 dL_law_685 dL_law_686 dL_law_687 dL_law_688 rfl (by decide) b rfl ?_
  refine lw_arg (j := 3) (x := (hp 1002 (i + 3))) dL_law_689 dL_law_690 dL_law_691 dL_law_692 dL_law_693 rfl (by decide) b rfl ?_
  refine lw_call dL_law_694 rfl qe_mL_law_mX10_open (as := [.inl (hp 1002 (i + 1)), .inl (hp 1002 (i + 2)), .inl (hp 1002 (i + 3))]) (b := 0) (rest := []) rfl rfl qb_s0 rfl rfl (Nat.le_of_ble_eq_true rfl) (Nat.le_of_ble_eq_true rfl) ⟨rfl, rfl⟩ (K := fun v hp1 => c_m_open (hp 1002 (i + 1)) (hp 1002 (i + 2)) (hp 1002 (i + 3)) hp1 (fun w hp2 => v = w ∧ Inv hp2)) (call_open (hp 1002 (i + 1)) (hp 1002 (i + 2)) (hp 1002 (i + 3)) h (K := fun v w hq => v = w ∧ Inv hq) (fun v hq hi => ⟨rfl, hi⟩)) (fun v hp1 e2 e3 k1 => ?_)
  refine qb_aloadn dL_law_697 rfl (i := 2) rfl rfl ?_
  refine lw_arg (j := 1) (x := (hp 1002 (i + 1))) dL_law_698 dL_law_699 dL_law_700 dL_law_701 dL_law_702 rfl (by decide) (b.go e3) (congrFun e2 _) ?_
  refine lw_arg (j := 2) (x := (hp 1002 (i + 2))) dL_law_703 dL_law_704 dL_law_705 dL_law_706 dL_law_707 rfl (by decide) (b.go e3) (congrFun e2 _) ?_
  refine lw_arg (j := 3) (x := (hp 1002 (i + 3))) dL_law_708 dL_law_709 dL_law_710 dL_law_711 dL_law_712 rfl (by decide) (b.go e3) (congrFun e2 _) ?_
  refine lw_call dL_law_713 rfl qe_mL_law_mX11_open (as := [.inl (hp 1002 (i + 1)), .inl (hp 1002 (i + 2)), .inl (hp 1002 (i + 3))]) (b := 60) (rest := [.inl v]) rfl rfl qb_s60 rfl rfl (Nat.le_of_ble_eq_true rfl) (Nat.le_of_ble_eq_true rfl) ⟨rfl, rfl⟩ (K := fun w hp2 => v = w ∧ Inv hp2) k1 (fun w hp2 e2' e3' k2 => ?_)
  exact qb_ceq dL_law_716 rfl (tgt := 1348) rfl (fun _ => kn hp2 k2.2 (e2'.trans e2) (e3'.trans e3)) (fun hne => absurd k2.1 hne)
theorem lc_judge (h : Inv hp) (b : lw_B i hp) (kn : ∀ hq, Inv hq → hq 1002 = hp 1002 → hq 1003 = hp 1003 → qb_R mL_law 89 14813 qb_sh 1348 (lw_L i) [] hq Q) : qb_R mL_law 89 14813 qb_sh 721 (lw_L i) [] hp Q := by
  refine qb_aloadn dL_law_721 rfl (i := 1) rfl rfl ?_
  refine lw_arg (j := 1) (x := (hp 1002 (i + 1))) dL_law_722 dL_law_723 dL_law_724 dL_law_725 dL_law_726 rfl (by decide) b rfl ?_
  refine lw_arg (j := 2) (x := (hp 1002 (i + 2))) dL_law_727 dL_law_728 dL_law_729 dL_law_730 dL_law_731 rfl (by decide) b rfl ?_
  refine lw_arg (j := 3) (x := (hp 1002 (i + 3))) dL_law_732 dL_law_733 dL_law_734 dL_law_735 dL_law_736 rfl (by decide) b rfl ?_
  refine lw_arg (j := 4) (x := (hp 1002 (i + 4))) dL_law_737 dL_law_738 dL_law_739 dL_law_740 dL_law_741 rfl (by decide) b rfl ?_
  refine lw_bool (y := (if (hp 1002 (i + 4)) = 0 then 0 else 1)) dL_law_742 dL_law_745 dL_law_746 dL_law_749 rfl rfl ?_
  refine lw_call dL_law_750 rfl qe_mL_law_mX10_judge (as := [.inl (hp 1002 (i + 1)), .inl (hp 1002 (i + 2)), .inl (hp 1002 (i + 3)), .inl (if (hp 1002 (i + 4)) = 0 then 0 else 1)]) (b := 0) (rest := []) rfl rfl qb_s0 rfl rfl (Nat.le_of_ble_eq_true rfl) (Nat.le_of_ble_eq_true rfl) ⟨rfl, rfl⟩ (K := fun v hp1 => c_m_judge (hp 1002 (i + 1)) (hp 1002 (i + 2)) (hp 1002 (i + 3)) (if (hp 1002 (i + 4)) = 0 then 0 else 1) hp1 (fun w hp2 => v = w ∧ Inv hp2)) (call_judge (hp 1002 (i + 1)) (hp 1002 (i + 2)) (hp 1002 (i + 3)) (if (hp 1002 (i + 4)) = 0 then 0 else 1) h (K := fun v w hq => v = w ∧ Inv hq) (fun v hq hi => ⟨rfl, hi⟩)) (fun v hp1 e2 e3 k1 => ?_)
  refine qb_aloadn dL_law_753 rfl (i := 2) rfl rfl ?_
  refine lw_arg (j := 1) (x := (hp 1002 (i + 1))) dL_law_754 dL_law_755 dL_law_756 dL_law_757 dL_law_758 rfl (by decide) (b.go e3) (congrFun e2 _) ?_
  refine lw_arg (j := 2) (x := (hp 1002 (i + 2))) dL_law_759 dL_law_760 dL_law_761 dL_law_762 dL_law_763 rfl (by decide) (b.go e3) (congrFun e2 _) ?_
  refine lw_arg (j := 3) (x := (hp 1002 (i + 3))) dL_law_764 dL_law_765 dL_law_766 dL_law_767 dL_law_768 rfl (by decide) (b.go e3) (congrFun e2 _) ?_
  refine lw_arg (j := 4) (x := (hp 1002 (i + 4))) dL_law_769 dL_law_770 dL_law_771 dL_law_772 dL_law_773 rfl (by decide) (b.go e3) (congrFun e2 _) ?_
  refine lw_bool (y := (if (hp 1002 (i + 4)) = 0 then 0 else 1)) dL_law_774 dL_law_777 dL_law_778 dL_law_781 rfl rfl ?_
  refine lw_call dL_law_782 rfl qe_mL_law_mX11_judge (as := [.inl (hp 1002 (i + 1)), .inl (hp 1002 (i + 2)), .inl (hp 1002 (i + 3)), .inl (if (hp 1002 (i + 4)) = 0 then 0 else 1)]) (b := 60) (rest := [.inl v]) rfl rfl qb_s60 rfl rfl (Nat.le_of_ble_eq_true rfl) (Nat.le_of_ble_eq_true rfl) ⟨rfl, rfl⟩ (K := fun w hp2 => v = w ∧ Inv hp2) k1 (fun w hp2 e2' e3' k2 => ?_)
  exact qb_ceq dL_law_785 rfl (tgt := 1348) rfl (fun _ => kn hp2 k2.2 (e2'.trans e2) (e3'.trans e3)) (fun hne => absurd k2.1 hne)
theorem lc_absolve (h : Inv hp) (b : lw_B i hp) (kn : ∀ hq, Inv hq → hq 1002 = hp 1002 → hq 1003 = hp 1003 → qb_R mL_law 89 14813 qb_sh 1348 (lw_L i) [] hq Q) : qb_R mL_law 89 14813 qb_sh 790 (lw_L i) [] hp Q := by
  refine qb_aloadn dL_law_790 rfl (i := 1) rfl rfl ?_
  refine lw_call dL_law_791 rfl qe_mL_law_mX10_absolve (as := []) (b := 0) (rest := []) rfl rfl qb_s0 rfl rfl (Nat.le_of_ble_eq_true rfl) (Nat.le_of_ble_eq_true rfl) ⟨rfl, rfl⟩ (K := fun v hp1 => c_m_absolve hp1 (fun w hp2 => v = w ∧ Inv hp2)) (call_absolve h (K := fun v w hq => v = w ∧ Inv hq) (fun v hq hi => ⟨rfl, hi⟩)) (fun v hp1 e2 e3 k1 => ?_)
  refine qb_aloadn dL_law_794 rfl (i := 2) rfl rfl ?_
  refine lw_call dL_law_795 rfl qe_mL_law_mX11_absolve (as := []) (b := 60) (rest := [.inl v]) rfl rfl qb_s60 rfl rfl (Nat.le_of_ble_eq_true rfl) (Nat.le_of_ble_eq_true rfl) ⟨rfl, rfl⟩ (K := fun w hp2 => v = w ∧ Inv hp2) k1 (fun w hp2 e2' e3' k2 => ?_)
  exact qb_ceq dL_law_798 rfl (tgt := 1348) rfl (fun _ => kn hp2 k2.2 (e2'.trans e2) (e3'.trans e3)) (fun hne => absurd k2.1 hne)
theorem lc_cause (h : Inv hp) (b : lw_B i hp) (kn : ∀ hq, Inv hq → hq 1002 = hp 1002 → hq 1003 = hp 1003 → qb_R mL_law 89 14813 qb_sh 1348 (lw_L i) [] hq Q) : qb_R mL_law 89 14813 qb_sh 803 (lw_L i) [] hp Q := by
  refine qb_aloadn dL_law_803 rfl (i := 1) rfl rfl ?_
  refine lw_arg (j := 1) (x := (hp 1002 (i + 1))) dL_law_804 dL_law_805 dL_law_806 dL_law_807 dL_law_808 rfl (by decide) b rfl ?_
  refine lw_call dL_law_809 rfl qe_mL_law_mX10_cause (as := [.inl (hp 1002 (i + 1))]) (b := 0) (rest := []) rfl rfl qb_s0 rfl rfl (Nat.le_of_ble_eq_true rfl) (Nat.le_of_ble_eq_true rfl) ⟨rfl, rfl⟩ (K := fun v hp1 => c_m_cause (hp 1002 (i + 1)) hp1 (fun w hp2 => v = w ∧ Inv hp2)) (call_cause (hp 1002 (i + 1)) h (K := fun v w hq => v = w ∧ Inv hq) (fun v hq hi => ⟨rfl, hi⟩)) (fun v hp1 e2 e3 k1 => ?_)
  refine qb_aloadn dL_law_812 rfl (i := 2) rfl rfl ?_
  refine lw_arg (j := 1) (x := (hp 1002 (i + 1))) dL_law_813 dL_law_814 dL_law_815 dL_law_816 dL_law_817 rfl (by decide) (b.go e3) (congrFun e2 _) ?_
  refine lw_call dL_law_818 rfl qe_mL_law_mX11_cause (as := [.inl (hp 1002 (i + 1))]) (b := 60) (rest := [.inl v]) rfl rfl qb_s60 rfl rfl (Nat.le_of_ble_eq_true rfl) (Nat.le_of_ble_eq_true rfl) ⟨rfl, rfl⟩ (K := fun w hp2 => v = w ∧ Inv hp2) k1 (fun w hp2 e2' e3' k2 => ?_)
  exact qb_ceq dL_law_821 rfl (tgt := 1348) rfl (fun _ => kn hp2 k2.2 (e2'.trans e2) (e3'.trans e3)) (fun hne => absurd k2.1 hne)
theorem lc_explained (h : Inv hp) (b : lw_B i hp) (kn : ∀ hq, Inv hq → hq 1002 = hp 1002 → hq 1003 = hp 1003 → qb_R mL_law 89 14813 qb_sh 1348 (lw_L i) [] hq Q) : qb_R mL_law 89 14813 qb_sh 826 (lw_L i) [] hp Q := by
  refine qb_aloadn dL_law_826 rfl (i := 1) rfl rfl ?_
  refine lw_call dL_law_827 rfl qe_mL_law_mX10_explained (as := []) (b := 0) (rest := []) rfl rfl qb_s0 rfl rfl (Nat.le_of_ble_eq_true rfl) (Nat.le_of_ble_eq_true rfl) ⟨rfl, rfl⟩ (K := fun v hp1 => c_m_explained hp1 (fun w hp2 => v = w ∧ Inv hp2)) (call_explained h (K := fun v w hq => v = w ∧ Inv hq) (fun v hq hi => ⟨rfl, hi⟩)) (fun v hp1 e2 e3 k1 => ?_)
  refine qb_aloadn dL_law_830 rfl (i := 2) rfl rfl ?_
  refine lw_call dL_law_831 rfl qe_mL_law_mX11_explained (as := []) (b := 60) (rest := [.inl v]) rfl rfl qb_s60 rfl rfl (Nat.le_of_ble_eq_true rfl) (Nat.le_of_ble_eq_true rfl) ⟨rfl, rfl⟩ (K := fun w hp2 => v = w ∧ Inv hp2) k1 (fun w hp2 e2' e3' k2 => ?_)
  exact qb_ceq dL_law_834 rfl (tgt := 1348) rfl (fun _ => kn hp2 k2.2 (e2'.trans e2) (e3'.trans e3)) (fun hne => absurd k2.1 hne)
theorem lc_rival (h : Inv hp) (b : lw_B i hp) (kn : ∀ hq, Inv hq → hq 1002 = hp 1002 → hq 1003 = hp 1003 → qb_R mL_law 89 14813 qb_sh 1348 (lw_L i) [] hq Q) : qb_R mL_law 89 14813 qb_sh 839 (lw_L i) [] hp Q := by
  refine qb_aloadn dL_law_839 rfl (i := 1) rfl rfl ?_
  refine lw_arg (j := 1) (x := (hp 1002 (i + 1))) dL_law_840 dL_law_841 dL_law_842 dL_law_843 dL_law_844 rfl (by decide) b rfl ?_
  refine lw_arg (j := 2) (x := (hp 1002 (i + 2))) dL_law_845 dL_law_846 dL_law_847 dL_law_848 dL_law_849 rfl (by decide) b rfl ?_
  refine lw_call dL_law_850 rfl qe_mL_law_mX10_rival (as := [.inl (hp 1002 (i + 1)), .inl (hp 1002 (i + 2))]) (b := 0) (rest := []) rfl rfl qb_s0 rfl rfl (Nat.le_of_ble_eq_true rfl) (Nat.le_of_ble_eq_true rfl) ⟨rfl, rfl⟩ (K := fun v hp1 => c_m_rival (hp 1002 (i + 1)) (hp 1002 (i + 2)) hp1 (fun w hp2 => v = w ∧ Inv hp2)) (call_rival (hp 1002 (i + 1)) (hp 1002 (i + 2)) h (K := fun v w hq => v = w ∧ Inv hq) (fun v hq hi => ⟨rfl, hi⟩)) (fun v hp1 e2 e3 k1 => ?_)
  refine qb_aloadn dL_law_853 rfl (i := 2) rfl rfl ?_
  refine lw_arg (j := 1) (x := (hp 1002 (i + 1))) dL_law_854 dL_law_855 dL_law_856 dL_law_857 dL_law_858 rfl (by decide) (b.go e3) (congrFun e2 _) ?_
  refine lw_arg (j := 2) (x := (hp 1002 (i + 2))) dL_law_859 dL_law_860 dL_law_861 dL_law_862 dL_law_863 rfl (by decide) (b.go e3) (congrFun e2 _) ?_
  refine lw_call dL_law_864 rfl qe_mL_law_mX11_rival (as := [.inl (hp 1002 (i + 1)), .inl (hp 1002 (i + 2))]) (b := 60) (rest := [.inl v]) rfl rfl qb_s60 rfl rfl (Nat.le_of_ble_eq_true rfl) (Nat.le_of_ble_eq_true rfl) ⟨rfl, rfl⟩ (K := fun w hp2 => v = w ∧ Inv hp2) k1 (fun w hp2 e2' e3' k2 => ?_)
  exact qb_ceq dL_law_867 rfl (tgt := 1348) rfl (fun _ => kn hp2 k2.2 (e2'.trans e2) (e3'.trans e3)) (fun hne => absurd k2.1 hne)
theorem lc_engage (h : Inv hp) (b : lw_B i hp) (kn : ∀ hq, Inv hq → hq 1002 = hp 1002 → hq 1003 = hp 1003 → qb_R mL_law 89 14813 qb_sh 1348 (lw_L i) [] hq Q) : qb_R mL_law 89 14813 qb_sh 872 (lw_L i) [] hp Q := by
  refine qb_aloadn dL_law_872 rfl (i := 1) rfl rfl ?_
  refine lw_arg (j := 1) (x := (hp 1002 (i + 1))) dL_law_873 dL_law_874 dL_law_875 dL_law_876 dL_law_877 rfl (by decide) b rfl ?_
  refine lw_arg (j := 2) (x := (hp 1002 (i + 2))) dL_law_878 dL_law_879 dL_law_880 dL_law_881 dL_law_882 rfl (by decide) b rfl ?_
  refine lw_arg (j := 3) (x := (hp 1002 (i + 3))) dL_law_883 dL_law_884 dL_law_885 dL_law_886 dL_law_887 rfl (by decide) b rfl ?_
  refine lw_arg (j := 4) (x := (hp 1002 (i + 4))) dL_law_888 dL_law_889 dL_law_890 dL_law_891 dL_law_892 rfl (by decide) b rfl ?_
  refine lw_call dL_law_893 rfl qe_mL_law_mX10_engage (as := [.inl (hp 1002 (i + 1)), .inl (hp 1002 (i + 2)), .inl (hp 1002 (i + 3)), .inl (hp 1002 (i + 4))]) (b := 0) (rest := []) rfl rfl qb_s0 rfl rfl (Nat.le_of_ble_eq_true rfl) (Nat.le_of_ble_eq_true rfl) ⟨rfl, rfl⟩ (K := fun v hp1 => c_m_engage (hp 1002 (i + 1)) (hp 1002 (i + 2)) (hp 1002 (i + 3)) (hp 1002 (i + 4)) hp1 (fun w hp2 => v = w ∧ Inv hp2)) (call_engage (hp 1002 (i + 1)) (hp 1002 (i + 2)) (hp 1002 (i + 3)) (hp 1002 (i + 4)) h (K := fun v w hq => v = w ∧ Inv hq) (fun v hq hi => ⟨rfl, hi⟩)) (fun v hp1 e2 e3 k1 => ?_)
  refine qb_aloadn dL_law_896 rfl (i := 2) rfl rfl ?_
  refine lw_arg (j := 1) (x := (hp 1002 (i + 1))) dL_law_897 dL_law_898 dL_law_899 dL_law_900 dL_law_901 rfl (by decide) (b.go e3) (congrFun e2 _) ?_
  refine lw_arg (j := 2) (x := (hp 1002 (i + 2))) dL_law_902 dL_law_903 dL_law_904 dL_law_905 dL_law_906 rfl (by decide) (b.go e3) (congrFun e2 _) ?_
  refine lw_arg (j := 3) (x := (hp 1002 (i + 3))) dL_law_907 dL_law_908 dL_law_909 dL_law_910 dL_law_911 rfl (by decide) (b.go e3) (congrFun e2 _) ?_
  refine lw_arg (j := 4) (x := (hp 1002 (i + 4))) dL_law_912 dL_law_913 dL_law_914 dL_law_915 dL_law_916 rfl (by decide) (b.go e3) (congrFun e2 _) ?_
  refine lw_call dL_law_917 rfl qe_mL_law_mX11_engage (as := [.inl (hp 1002 (i + 1)), .inl (hp 1002 (i + 2)), .inl (hp 1002 (i + 3)), .inl (hp 1002 (i + 4))]) (b := 60) (rest := [.inl v]) rfl rfl qb_s60 rfl rfl (Nat.le_of_ble_eq_true rfl) (Nat.le_of_ble_eq_true rfl) ⟨rfl, rfl⟩ (K := fun w hp2 => v = w ∧ Inv hp2) k1 (fun w hp2 e2' e3' k2 => ?_)
  exact qb_ceq dL_law_920 rfl (tgt := 1348) rfl (fun _ => kn hp2 k2.2 (e2'.trans e2) (e3'.trans e3)) (fun hne => absurd k2.1 hne)
theorem lc_free (h : Inv hp) (b : lw_B i hp) (kn : ∀ hq, Inv hq → hq 1002 = hp 1002 → hq 1003 = hp 1003 → qb_R mL_law 89 14813 qb_sh 1348 (lw_L i) [] hq Q) : qb_R mL_law 89 14813 qb_sh 925 (lw_L i) [] hp Q := by
  refine qb_aloadn dL_law_925 rfl (i := 1) rfl rfl ?_
  refine lw_arg (j := 1) (x := (hp 1002 (i + 1))) dL_law_926 dL_law_927 dL_law_928 dL_law_929 dL_law_930 rfl (by decide) b rfl ?_
  refine lw_arg (j := 2) (x := (hp 1002 (i + 2))) dL_law_931 dL_law_932 dL_law_933 dL_law_934 dL_law_935 rfl (by decide) b rfl ?_
  refine lw_arg (j := 3) (x := (hp 1002 (i + 3))) dL_law_936 dL_law_937 dL_law_938 dL_law_939 dL_law_940 rfl (by decide) b rfl ?_
  refine lw_call dL_law_941 rfl qe_mL_law_mX10_free (as := [.inl (hp 1002 (i + 1)), .inl (hp 1002 (i + 2)), .inl (hp 1002 (i + 3))]) (b := 0) (rest := []) rfl rfl qb_s0 rfl rfl (Nat.le_of_ble_eq_true rfl) (Nat.le_of_ble_eq_true rfl) ⟨rfl, rfl⟩ (K := fun v hp1 => c_m_free (hp 1002 (i + 1)) (hp 1002 (i + 2)) (hp 1002 (i + 3)) hp1 (fun w hp2 => v = w ∧ Inv hp2)) (call_free (hp 1002 (i + 1)) (hp 1002 (i + 2)) (hp 1002 (i + 3)) h (K := fun v w hq => v = w ∧ Inv hq) (fun v hq hi => ⟨rfl, hi⟩)) (fun v hp1 e2 e3 k1 => ?_)
  refine qb_aloadn dL_law_944 rfl (i := 2) rfl rfl ?_
  refine lw_arg (j := 1) (x := (hp 1002 (i + 1))) dL_law_945 dL_law_946 dL_law_947 dL_law_948 dL_law_949 rfl (by decide) (b.go e3) (congrFun e2 _) ?_
  refine lw_arg (j := 2) (x := (hp 1002 (i + 2))) dL_law_950 dL_law_951 dL_law_952 dL_law_953 dL_law_954 rfl (by decide) (b.go e3) (congrFun e2 _) ?_
  refine lw_arg (j := 3) (x := (hp 1002 (i + 3))) dL_law_955 dL_law_956 dL_law_957 dL_law_958 dL_law_959 rfl (by decide) (b.go e3) (congrFun e2 _) ?_
  refine lw_call dL_law_960 rfl qe_mL_law_mX11_free (as := [.inl (hp 1002 (i + 1)), .inl (hp 1002 (i + 2)), .inl (hp 1002 (i + 3))]) (b := 60) (rest := [.inl v]) rfl rfl qb_s60 rfl rfl (Nat.le_of_ble_eq_true rfl) (Nat.le_of_ble_eq_true rfl) ⟨rfl, rfl⟩ (K := fun w hp2 => v = w ∧ Inv hp2) k1 (fun w hp2 e2' e3' k2 => ?_)
  exact qb_ceq dL_law_963 rfl (tgt := 1348) rfl (fun _ => kn hp2 k2.2 (e2'.trans e2) (e3'.trans e3)) (fun hne => absurd k2.1 hne)
theorem lc_freeOn (h : Inv hp) (b : lw_B i hp) (kn : ∀ hq, Inv hq → hq 1002 = hp 1002 → hq 1003 = hp 1003 → qb_R mL_law 89 14813 qb_sh 1348 (lw_L i) [] hq Q) : qb_R mL_law 89 14813 qb_sh 968 (lw_L i) [] hp Q := by
  refine qb_aloadn dL_law_968 rfl (i := 1) rfl rfl ?_
  refine lw_arg (j := 1) (x := (hp 1002 (i + 1))) dL_law_969 dL_law_970 dL_law_971 dL_law_972 dL_law_973 rfl (by decide) b rfl ?_
  refine lw_arg (j := 2) (x := (hp 1002 (i + 2))) dL_law_974 dL_law_975 dL_law_976 dL_law_977 dL_law_978 rfl (by decide) b rfl ?_
  refine lw_call dL_law_979 rfl qe_mL_law_mX10_freeOn (as := [.inl (hp 1002 (i + 1)), .inl (hp 1002 (i + 2))]) (b := 0) (rest := []) rfl rfl qb_s0 rfl rfl (Nat.le_of_ble_eq_true rfl) (Nat.le_of_ble_eq_true rfl) ⟨rfl, rfl⟩ (K := fun v hp1 => c_m_freeOn (hp 1002 (i + 1)) (hp 1002 (i + 2)) hp1 (fun w hp2 => v = w ∧ Inv hp2)) (call_freeOn (hp 1002 (i + 1)) (hp 1002 (i + 2)) h (K := fun v w hq => v = w ∧ Inv hq) (fun v hq hi => ⟨rfl, hi⟩)) (fun v hp1 e2 e3 k1 => ?_)
  refine qb_aloadn dL_law_982 rfl (i := 2) rfl rfl ?_
  refine lw_arg (j := 1) (x := (hp 1002 (i + 1))) dL_law_983 dL_law_984 dL_law_985 dL_law_986 dL_law_987 rfl (by decide) (b.go e3) (congrFun e2 _) ?_
  refine lw_arg (j := 2) (x := (hp 1002 (i + 2))) dL_law_988 dL_law_989 dL_law_990 dL_law_991 dL_law_992 rfl (by decide) (b.go e3) (congrFun e2 _) ?_
  refine lw_call dL_law_993 rfl qe_mL_law_mX11_freeOn (as := [.inl (hp 1002 (i + 1)), .inl (hp 1002 (i + 2))]) (b := 60) (rest := [.inl v]) rfl rfl qb_s60 rfl rfl (Nat.le_of_ble_eq_true rfl) (Nat.le_of_ble_eq_true rfl) ⟨rfl, rfl⟩ (K := fun w hp2 => v = w ∧ Inv hp2) k1 (fun w hp2 e2' e3' k2 => ?_)
  exact qb_ceq dL_law_996 rfl (tgt := 1348) rfl (fun _ => kn hp2 k2.2 (e2'.trans e2) (e3'.trans e3)) (fun hne => absurd k2.1 hne)
theorem lc_cost (h : Inv hp) (b : lw_B i hp) (kn : ∀ hq, Inv hq → hq 1002 = hp 1002 → hq 1003 = hp 1003 → qb_R mL_law 89 14813 qb_sh 1348 (lw_L i) [] hq Q) : qb_R mL_law 89 14813 qb_sh 1001 (lw_L i) [] hp Q := by
  refine qb_aloadn dL_law_1001 rfl (i := 1) rfl rfl ?_
  refine lw_arg (j := 1) (x := (hp 1002 (i + 1))) dL_law_1002 dL_law_1003 dL_law_1004 dL_law_1005 dL_law_1006 rfl (by decide) b rfl ?_
  refine lw_arg (j := 2) (x := (hp 1002 (i + 2))) dL_law_1007 dL_law_1008 dL_law_1009 dL_law_1010 dL_law_1011 rfl (by decide) b rfl ?_
  refine lw_arg (j := 3) (x := (hp 1002 (i + 3))) dL_law_1012 dL_law_1013 dL_law_1014 dL_law_1015 dL_law_1016 rfl (by decide) b rfl ?_
  refine lw_arg (j := 4) (x := (hp 1002 (i + 4))) dL_law_1017 dL_law_1018 dL_law_1019 dL_law_1020 dL_law_1021 rfl (by decide) b rfl ?_
  refine lw_call dL_law_1022 rfl qe_mL_law_mX10_cost (as := [.inl (hp 1002 (i + 1)), .inl (hp 1002 (i + 2)), .inl (hp 1002 (i + 3)), .inl (hp 1002 (i + 4))]) (b := 0) (rest := []) rfl rfl qb_s0 rfl rfl (Nat.le_of_ble_eq_true rfl) (Nat.le_of_ble_eq_true rfl) ⟨rfl, rfl⟩ (K := fun v hp1 => c_m_cost (hp 1002 (i + 1)) (hp 1002 (i + 2)) (hp 1002 (i + 3)) (hp 1002 (i + 4)) hp1 (fun w hp2 => v = w ∧ Inv hp2)) (call_cost (hp 1002 (i + 1)) (hp 1002 (i + 2)) (hp 1002 (i + 3)) (hp 1002 (i + 4)) h (K := fun v w hq => v = w ∧ Inv hq) (fun v hq hi => ⟨rfl, hi⟩)) (fun v hp1 e2 e3 k1 => ?_)
  refine qb_aloadn dL_law_1025 rfl (i := 2) rfl rfl ?_
  refine lw_arg (j := 1) (x := (hp 1002 (i + 1))) dL_law_1026 dL_law_1027 dL_law_1028 dL_law_1029 dL_law_1030 rfl (by decide) (b.go e3) (congrFun e2 _) ?_
  refine lw_arg (j := 2) (x := (hp 1002 (i + 2))) dL_law_1031 dL_law_1032 dL_law_1033 dL_law_1034 dL_law_1035 rfl (by decide) (b.go e3) (congrFun e2 _) ?_
  refine lw_arg (j := 3) (x := (hp 1002 (i + 3))) dL_law_1036 dL_law_1037 dL_law_1038 dL_law_1039 dL_law_1040 rfl (by decide) (b.go e3) (congrFun e2 _) ?_
  refine lw_arg (j := 4) (x := (hp 1002 (i + 4))) dL_law_1041 dL_law_1042 dL_law_1043 dL_law_1044 dL_law_1045 rfl (by decide) (b.go e3) (congrFun e2 _) ?_
  refine lw_call dL_law_1046 rfl qe_mL_law_mX11_cost (as := [.inl (hp 1002 (i + 1)), .inl (hp 1002 (i + 2)), .inl (hp 1002 (i + 3)), .inl (hp 1002 (i + 4))]) (b := 60) (rest := [.inl v]) rfl rfl qb_s60 rfl rfl (Nat.le_of_ble_eq_true rfl) (Nat.le_of_ble_eq_true rfl) ⟨rfl, rfl⟩ (K := fun w hp2 => v = w ∧ Inv hp2) k1 (fun w hp2 e2' e3' k2 => ?_)
  exact qb_ceq dL_law_1049 rfl (tgt := 1348) rfl (fun _ => kn hp2 k2.2 (e2'.trans e2) (e3'.trans e3)) (fun hne => absurd k2.1 hne)
theorem lc_account (h : Inv hp) (b : lw_B i hp) (kn : ∀ hq, Inv hq → hq 1002 = hp 1002 → hq 1003 = hp 1003 → qb_R mL_law 89 14813 qb_sh 1348 (lw_L i) [] hq Q) : qb_R mL_law 89 14813 qb_sh 1054 (lw_L i) [] hp Q := by
  refine qb_aloadn dL_law_1054 rfl (i := 1) rfl rfl ?_
  refine lw_arg (j := 1) (x := (hp 1002 (i + 1))) dL_law_1055 dL_law_1056 dL_law_1057 dL_law_1058 dL_law_1059 rfl (by decide) b rfl ?_
  refine lw_arg (j := 2) (x := (hp 1002 (i + 2))) dL_law_1060 dL_law_1061 dL_law_1062 dL_law_1063 dL_law_1064 rfl (by decide) b rfl ?_
  refine lw_arg (j := 3) (x := (hp 1002 (i + 3))) dL_law_1065 dL_law_1066 dL_law_1067 dL_law_1068 dL_law_1069 rfl (by decide) b rfl ?_
  refine lw_call dL_law_1070 rfl qe_mL_law_mX10_account (as := [.inl (hp 1002 (i + 1)), .inl (hp 1002 (i + 2)), .inl (hp 1002 (i + 3))]) (b := 0) (rest := []) rfl rfl qb_s0 rfl rfl (Nat.le_of_ble_eq_true rfl) (Nat.le_of_ble_eq_true rfl) ⟨rfl, rfl⟩ (K := fun v hp1 => c_m_account (hp 1002 (i + 1)) (hp 1002 (i + 2)) (hp 1002 (i + 3)) hp1 (fun w hp2 => v = w ∧ Inv hp2)) (call_account (hp 1002 (i + 1)) (hp 1002 (i + 2)) (hp 1002 (i + 3)) h (K := fun v w hq => v = w ∧ Inv hq) (fun v hq hi => ⟨rfl, hi⟩)) (fun v hp1 e2 e3 k1 => ?_)
  refine qb_aloadn dL_law_1073 rfl (i := 2) rfl rfl ?_
  refine lw_arg (j := 1) (x := (hp 1002 (i + 1))) dL_law_1074 dL_law_1075 dL_law_1076 dL_law_1077 dL_law_1078 rfl (by decide) (b.go e3) (congrFun e2 _) ?_
  refine lw_arg (j := 2) (x := (hp 1002 (i + 2))) dL_law_1079 dL_law_1080 dL_law_1081 dL_law_1082 dL_law_1083 rfl (by decide) (b.go e3) (congrFun e2 _) ?_
  refine lw_arg (j := 3) (x := (hp 1002 (i + 3))) dL_law_1084 dL_law_1085 dL_law_1086 dL_law_1087 dL_law_1088 rfl (by decide) (b.go e3) (congrFun e2 _) ?_
  refine lw_call dL_law_1089 rfl qe_mL_law_mX11_account (as := [.inl (hp 1002 (i + 1)), .inl (hp 1002 (i + 2)), .inl (hp 1002 (i + 3))]) (b := 60) (rest := [.inl v]) rfl rfl qb_s60 rfl rfl (Nat.le_of_ble_eq_true rfl) (Nat.le_of_ble_eq_true rfl) ⟨rfl, rfl⟩ (K := fun w hp2 => v = w ∧ Inv hp2) k1 (fun w hp2 e2' e3' k2 => ?_)
  exact qb_ceq dL_law_1092 rfl (tgt := 1348) rfl (fun _ => kn hp2 k2.2 (e2'.trans e2) (e3'.trans e3)) (fun hne => absurd k2.1 hne)
theorem lc_spread (h : Inv hp) (b : lw_B i hp) (kn : ∀ hq, Inv hq → hq 1002 = hp 1002 → hq 1003 = hp 1003 → qb_R mL_law 89 14813 qb_sh 1348 (lw_L i) [] hq Q) : qb_R mL_law 89 14813 qb_sh 1097 (lw_L i) [] hp Q := by
  refine qb_aloadn dL_law_1097 rfl (i := 1) rfl rfl ?_
  refine lw_arg (j := 1) (x := (hp 1002 (i + 1))) dL_law_1098 dL_law_1099 dL_law_1100 dL_law_1101 dL_law_1102 rfl (by decide) b rfl ?_
  refine lw_call dL_law_1103 rfl qe_mL_law_mX10_spread (as := [.inl (hp 1002 (i + 1))]) (b := 0) (rest := []) rfl rfl qb_s0 rfl rfl (Nat.le_of_ble_eq_true rfl) (Nat.le_of_ble_eq_true rfl) ⟨rfl, rfl⟩ (K := fun v hp1 => c_m_spread (hp 1002 (i + 1)) hp1 (fun w hp2 => v = w ∧ Inv hp2)) (call_spread (hp 1002 (i + 1)) h (K := fun v w hq => v = w ∧ Inv hq) (fun v hq hi => ⟨rfl, hi⟩)) (fun v hp1 e2 e3 k1 => ?_)
  refine qb_aloadn dL_law_1106 rfl (i := 2) rfl rfl ?_
  refine lw_arg (j := 1) (x := (hp 1002 (i + 1))) dL_law_1107 dL_law_1108 dL_law_1109 dL_law_1110 dL_law_1111 rfl (by decide) (b.go e3) (congrFun e2 _) ?_
  refine lw_call dL_law_1112 rfl qe_mL_law_mX11_spread (as := [.inl (hp 1002 (i + 1))]) (b := 60) (rest := [.inl v]) rfl rfl qb_s60 rfl rfl (Nat.le_of_ble_eq_true rfl) (Nat.le_of_ble_eq_true rfl) ⟨rfl, rfl⟩ (K := fun w hp2 => v = w ∧ Inv hp2) k1 (fun w hp2 e2' e3' k2 => ?_)
  exact qb_ceq dL_law_1115 rfl (tgt := 1348) rfl (fun _ => kn hp2 k2.2 (e2'.trans e2) (e3'.trans e3)) (fun hne => absurd k2.1 hne)
theorem lc_settle (h : Inv hp) (b : lw_B i hp) (kn : ∀ hq, Inv hq → hq 1002 = hp 1002 → hq 1003 = hp 1003 → qb_R mL_law 89 14813 qb_sh 1348 (lw_L i) [] hq Q) : qb_R mL_law 89 14813 qb_sh 1120 (lw_L i) [] hp Q := by
  refine qb_aloadn dL_law_1120 rfl (i := 1) rfl rfl ?_
  refine lw_call dL_law_1121 rfl qe_mL_law_mX10_settle (as := []) (b := 0) (rest := []) rfl rfl qb_s0 rfl rfl (Nat.le_of_ble_eq_true rfl) (Nat.le_of_ble_eq_true rfl) ⟨rfl, rfl⟩ (K := fun v hp1 => c_m_settle hp1 (fun w hp2 => v = w ∧ Inv hp2)) (call_settle h (K := fun v w hq => v = w ∧ Inv hq) (fun v hq hi => ⟨rfl, hi⟩)) (fun v hp1 e2 e3 k1 => ?_)
  refine qb_aloadn dL_law_1124 rfl (i := 2) rfl rfl ?_
  refine lw_call dL_law_1125 rfl qe_mL_law_mX11_settle (as := []) (b := 60) (rest := [.inl v]) rfl rfl qb_s60 rfl rfl (Nat.le_of_ble_eq_true rfl) (Nat.le_of_ble_eq_true rfl) ⟨rfl, rfl⟩ (K := fun w hp2 => v = w ∧ Inv hp2) k1 (fun w hp2 e2' e3' k2 => ?_)
  exact qb_ceq dL_law_1128 rfl (tgt := 1348) rfl (fun _ => kn hp2 k2.2 (e2'.trans e2) (e3'.trans e3)) (fun hne => absurd k2.1 hne)
theorem lc_ship (h : Inv hp) (b : lw_B i hp) (kn : ∀ hq, Inv hq → hq 1002 = hp 1002 → hq 1003 = hp 1003 → qb_R mL_law 89 14813 qb_sh 1348 (lw_L i) [] hq Q) : qb_R mL_law 89 14813 qb_sh 1133 (lw_L i) [] hp Q := by
  refine qb_aloadn dL_law_1133 rfl (i := 1) rfl rfl ?_
  refine lw_arg (j := 1) (x := (hp 1002 (i + 1))) dL_law_1134 dL_law_1135 dL_law_1136 dL_law_1137 dL_law_1138 rfl (by decide) b rfl ?_
  refine lw_arg (j := 2) (x := (hp 1002 (i + 2))) dL_law_1139 dL_law_1140 dL_law_1141 dL_law_1142 dL_law_1143 rfl (by decide) b rfl ?_
  refine lw_arg (j := 3) (x := (hp 1002 (i + 3))) dL_law_1144 dL_law_1145 dL_law_1146 dL_law_1147 dL_law_1148 rfl (by decide) b rfl ?_
  refine lw_call dL_law_1149 rfl qe_mL_law_mX10_ship (as := [.inl (hp 1002 (i + 1)), .inl (hp 1002 (i + 2)), .inl (hp 1002 (i + 3))]) (b := 0) (rest := []) rfl rfl qb_s0 rfl rfl (Nat.le_of_ble_eq_true rfl) (Nat.le_of_ble_eq_true rfl) ⟨rfl, rfl⟩ (K := fun v hp1 => c_m_ship (hp 1002 (i + 1)) (hp 1002 (i + 2)) (hp 1002 (i + 3)) hp1 (fun w hp2 => v = w ∧ Inv hp2)) (call_ship (hp 1002 (i + 1)) (hp 1002 (i + 2)) (hp 1002 (i + 3)) h (K := fun v w hq => v = w ∧ Inv hq) (fun v hq hi => ⟨rfl, hi⟩)) (fun v hp1 e2 e3 k1 => ?_)
  refine qb_aloadn dL_law_1152 rfl (i := 2) rfl rfl ?_
  refine lw_arg (j := 1) (x := (hp 1002 (i + 1))) dL_law_1153 dL_law_1154 dL_law_1155 dL_law_1156 dL_law_1157 rfl (by decide) (b.go e3) (congrFun e2 _) ?_
  refine lw_arg (j := 2) (x := (hp 1002 (i + 2))) dL_law_1158 dL_law_1159 dL_law_1160 dL_law_1161 dL_law_1162 rfl (by decide) (b.go e3) (congrFun e2 _) ?_
  refine lw_arg (j := 3) (x := (hp 1002 (i + 3))) dL_law_1163 dL_law_1164 dL_law_1165 dL_law_1166 dL_law_1167 rfl (by decide) (b.go e3) (congrFun e2 _) ?_
  refine lw_call dL_law_1168 rfl qe_mL_law_mX11_ship (as := [.inl (hp 1002 (i + 1)), .inl (hp 1002 (i + 2)), .inl (hp 1002 (i + 3))]) (b := 60) (rest := [.inl v]) rfl rfl qb_s60 rfl rfl (Nat.le_of_ble_eq_true rfl) (Nat.le_of_ble_eq_true rfl) ⟨rfl, rfl⟩ (K := fun w hp2 => v = w ∧ Inv hp2) k1 (fun w hp2 e2' e3' k2 => ?_)
  exact qb_ceq dL_law_1171 rfl (tgt := 1348) rfl (fun _ => kn hp2 k2.2 (e2'.trans e2) (e3'.trans e3)) (fun hne => absurd k2.1 hne)
theorem lc_price (h : Inv hp) (b : lw_B i hp) (kn : ∀ hq, Inv hq → hq 1002 = hp 1002 → hq 1003 = hp 1003 → qb_R mL_law 89 14813 qb_sh 1348 (lw_L i) [] hq Q) : qb_R mL_law 89 14813 qb_sh 1176 (lw_L i) [] hp Q := by
  refine qb_aloadn dL_law_1176 rfl (i := 1) rfl rfl ?_
  refine lw_arg (j := 1) (x := (hp 1002 (i + 1))) dL_law_1177 dL_law_1178 dL_law_1179 dL_law_1180 dL_law_1181 rfl (by decide) b rfl ?_
  refine lw_arg (j := 2) (x := (hp 1002 (i + 2))) dL_law_1182 dL_law_1183 dL_law_1184 dL_law_1185 dL_law_1186 rfl (by decide) b rfl ?_
  refine lw_arg (j := 3) (x := (hp 1002 (i + 3))) dL_law_1187 dL_law_1188 dL_law_1189 dL_law_1190 dL_law_1191 rfl (by decide) b rfl ?_
  refine lw_arg (j := 4) (x := (hp 1002 (i + 4))) dL_law_1192 dL_law_1193 dL_law_1194 dL_law_1195 dL_law_1196 rfl (by decide) b rfl ?_
  refine lw_call dL_law_1197 rfl qe_mL_law_mX10_price (as := [.inl (hp 1002 (i + 1)), .inl (hp 1002 (i + 2)), .inl (hp 1002 (i + 3)), .inl (hp 1002 (i + 4))]) (b := 0) (rest := []) rfl rfl qb_s0 rfl rfl (Nat.le_of_ble_eq_true rfl) (Nat.le_of_ble_eq_true rfl) ⟨rfl, rfl⟩ (K := fun v hp1 => c_m_price (hp 1002 (i + 1)) (hp 1002 (i + 2)) (hp 1002 (i + 3)) (hp 1002 (i + 4)) hp1 (fun w hp2 => v = w ∧ Inv hp2)) (call_price (hp 1002 (i + 1)) (hp 1002 (i + 2)) (hp 1002 (i + 3)) (hp 1002 (i + 4)) h (K := fun v w hq => v = w ∧ Inv hq) (fun v hq hi => ⟨rfl, hi⟩)) (fun v hp1 e2 e3 k1 => ?_)
  refine qb_aloadn dL_law_1200 rfl (i := 2) rfl rfl ?_
  refine lw_arg (j := 1) (x := (hp 1002 (i + 1))) dL_law_1201 dL_law_1202 dL_law_1203 dL_law_1204 dL_law_1205 rfl (by decide) (b.go e3) (congrFun e2 _) ?_
  refine lw_arg (j := 2) (x := (hp 1002 (i + 2))) dL_law_1206 dL_law_1207 dL_law_1208 dL_law_1209 dL_law_1210 rfl (by decide) (b.go e3) (congrFun e2 _) ?_
  refine lw_arg (j := 3) (x := (hp 1002 (i + 3))) dL_law_1211 dL_law_1212 dL_law_1213 dL_law_1214 dL_law_1215 rfl (by decide) (b.go e3) (congrFun e2 _) ?_
  refine lw_arg (j := 4) (x := (hp 1002 (i + 4))) dL_law_1216 dL_law_1217 dL_law_1218 dL_law_1219 dL_law_1220 rfl (by decide) (b.go e3) (congrFun e2 _) ?_
  refine lw_call dL_law_1221 rfl qe_mL_law_mX11_price (as := [.inl (hp 1002 (i + 1)), .inl (hp 1002 (i + 2)), .inl (hp 1002 (i + 3)), .inl (hp 1002 (i + 4))]) (b := 60) (rest := [.inl v]) rfl rfl qb_s60 rfl rfl (Nat.le_of_ble_eq_true rfl) (Nat.le_of_ble_eq_true rfl) ⟨rfl, rfl⟩ (K := fun w hp2 => v = w ∧ Inv hp2) k1 (fun w hp2 e2' e3' k2 => ?_)
  exact qb_ceq dL_law_1224 rfl (tgt := 1348) rfl (fun _ => kn hp2 k2.2 (e2'.trans e2) (e3'.trans e3)) (fun hne => absurd k2.1 hne)
theorem lc_priceOn (h : Inv hp) (b : lw_B i hp) (kn : ∀ hq, Inv hq → hq 1002 = hp 1002 → hq 1003 = hp 1003 → qb_R mL_law 89 14813 qb_sh 1348 (lw_L i) [] hq Q) : qb_R mL_law 89 14813 qb_sh 1229 (lw_L i) [] hp Q := by
  refine qb_aloadn dL_law_1229 rfl (i := 1) rfl rfl ?_
  refine lw_arg (j := 1) (x := (hp 1002 (i + 1))) dL_law_1230 dL_law_1231 dL_law_1232 dL_law_1233 dL_law_1234 rfl (by decide) b rfl ?_
  refine lw_arg (j := 2) (x := (hp 1002 (i + 2))) dL_law_1235 dL_law_1236 dL_law_1237 dL_law_1238 dL_law_1239 rfl (by decide) b rfl ?_
  refine lw_arg (j := 3) (x := (hp 1002 (i + 3))) dL_law_1240 dL_law_1241 dL_law_1242 dL_law_1243 dL_law_1244 rfl (by decide) b rfl ?_
  refine lw_call dL_law_1245 rfl qe_mL_law_mX10_priceOn (as := [.inl (hp 1002 (i + 1)), .inl (hp 1002 (i + 2)), .inl (hp 1002 (i + 3))]) (b := 0) (rest := []) rfl rfl qb_s0 rfl rfl (Nat.le_of_ble_eq_true rfl) (Nat.le_of_ble_eq_true rfl) ⟨rfl, rfl⟩ (K := fun v hp1 => c_m_priceOn (hp 1002 (i + 1)) (hp 1002 (i + 2)) (hp 1002 (i + 3)) hp1 (fun w hp2 => v = w ∧ Inv hp2)) (call_priceOn (hp 1002 (i + 1)) (hp 1002 (i + 2)) (hp 1002 (i + 3)) h (K := fun v w hq => v = w ∧ Inv hq) (fun v hq hi => ⟨rfl, hi⟩)) (fun v hp1 e2 e3 k1 => ?_)
  refine qb_aloadn dL_law_1248 rfl (i := 2) rfl rfl ?_
  refine lw_arg (j := 1) (x := (hp 1002 (i + 1))) dL_law_1249 dL_law_1250 dL_law_1251 dL_law_1252 dL_law_1253 rfl (by decide) (b.go e3) (congrFun e2 _) ?_
  refine lw_arg (j := 2) (x := (hp 1002 (i + 2))) dL_law_1254 dL_law_1255 dL_law_1256 dL_law_1257 dL_law_1258 rfl (by decide) (b.go e3) (congrFun e2 _) ?_
  refine lw_arg (j := 3) (x := (hp 1002 (i + 3))) dL_law_1259 dL_law_1260 dL_law_1261 dL_law_1262 dL_law_1263 rfl (by decide) (b.go e3) (congrFun e2 _) ?_
  refine lw_call dL_law_1264 rfl qe_mL_law_mX11_priceOn (as := [.inl (hp 1002 (i + 1)), .inl (hp 1002 (i + 2)), .inl (hp 1002 (i + 3))]) (b := 60) (rest := [.inl v]) rfl rfl qb_s60 rfl rfl (Nat.le_of_ble_eq_true rfl) (Nat.le_of_ble_eq_true rfl) ⟨rfl, rfl⟩ (K := fun w hp2 => v = w ∧ Inv hp2) k1 (fun w hp2 e2' e3' k2 => ?_)
  exact qb_ceq dL_law_1267 rfl (tgt := 1348) rfl (fun _ => kn hp2 k2.2 (e2'.trans e2) (e3'.trans e3)) (fun hne => absurd k2.1 hne)
theorem lc_load (h : Inv hp) (b : lw_B i hp) (kn : ∀ hq, Inv hq → hq 1002 = hp 1002 → hq 1003 = hp 1003 → qb_R mL_law 89 14813 qb_sh 1348 (lw_L i) [] hq Q) : qb_R mL_law 89 14813 qb_sh 1272 (lw_L i) [] hp Q := by
  refine qb_aloadn dL_law_1272 rfl (i := 1) rfl rfl ?_
  refine lw_arg (j := 1) (x := (hp 1002 (i + 1))) dL_law_1273 dL_law_1274 dL_law_1275 dL_law_1276 dL_law_1277 rfl (by decide) b rfl ?_
  refine lw_arg (j := 2) (x := (hp 1002 (i + 2))) dL_law_1278 dL_law_1279 dL_law_1280 dL_law_1281 dL_law_1282 rfl (by decide) b rfl ?_
  refine lw_arg (j := 3) (x := (hp 1002 (i + 3))) dL_law_1283 dL_law_1284 dL_law_1285 dL_law_1286 dL_law_1287 rfl (by decide) b rfl ?_
  refine lw_arg (j := 4) (x := (hp 1002 (i + 4))) dL_law_1288 dL_law_1289 dL_law_1290 dL_law_1291 dL_law_1292 rfl (by decide) b rfl ?_
  refine lw_call dL_law_1293 rfl qe_mL_law_mX10_load (as := [.inl (hp 1002 (i + 1)), .inl (hp 1002 (i + 2)), .inl (hp 1002 (i + 3)), .inl (hp 1002 (i + 4))]) (b := 0) (rest := []) rfl rfl qb_s0 rfl rfl (Nat.le_of_ble_eq_true rfl) (Nat.le_of_ble_eq_true rfl) ⟨rfl, rfl⟩ (K := fun v hp1 => c_m_load (hp 1002 (i + 1)) (hp 1002 (i + 2)) (hp 1002 (i + 3)) (hp 1002 (i + 4)) hp1 (fun w hp2 => v = w ∧ Inv hp2)) (call_load (hp 1002 (i + 1)) (hp 1002 (i + 2)) (hp 1002 (i + 3)) (hp 1002 (i + 4)) h (K := fun v w hq => v = w ∧ Inv hq) (fun v hq hi => ⟨rfl, hi⟩)) (fun v hp1 e2 e3 k1 => ?_)
  refine qb_aloadn dL_law_1296 rfl (i := 2) rfl rfl ?_
  refine lw_arg (j := 1) (x := (hp 1002 (i + 1))) dL_law_1297 dL_law_1298 dL_law_1299 dL_law_1300 dL_law_1301 rfl (by decide) (b.go e3) (congrFun e2 _) ?_
  refine lw_arg (j := 2) (x := (hp 1002 (i + 2))) dL_law_1302 dL_law_1303 dL_law_1304 dL_law_1305 dL_law_1306 rfl (by decide) (b.go e3) (congrFun e2 _) ?_
  refine lw_arg (j := 3) (x := (hp 1002 (i + 3))) dL_law_1307 dL_law_1308 dL_law_1309 dL_law_1310 dL_law_1311 rfl (by decide) (b.go e3) (congrFun e2 _) ?_
  refine lw_arg (j := 4) (x := (hp 1002 (i + 4))) dL_law_1312 dL_law_1313 dL_law_1314 dL_law_1315 dL_law_1316 rfl (by decide) (b.go e3) (congrFun e2 _) ?_
  refine lw_call dL_law_1317 rfl qe_mL_law_mX11_load (as := [.inl (hp 1002 (i + 1)), .inl (hp 1002 (i + 2)), .inl (hp 1002 (i + 3)), .inl (hp 1002 (i + 4))]) (b := 60) (rest := [.inl v]) rfl rfl qb_s60 rfl rfl (Nat.le_of_ble_eq_true rfl) (Nat.le_of_ble_eq_true rfl) ⟨rfl, rfl⟩ (K := fun w hp2 => v = w ∧ Inv hp2) k1 (fun w hp2 e2' e3' k2 => ?_)
  exact qb_ceq dL_law_1320 rfl (tgt := 1348) rfl (fun _ => kn hp2 k2.2 (e2'.trans e2) (e3'.trans e3)) (fun hne => absurd k2.1 hne)
theorem lc_told (h : Inv hp) (b : lw_B i hp) (kn : ∀ hq, Inv hq → hq 1002 = hp 1002 → hq 1003 = hp 1003 → qb_R mL_law 89 14813 qb_sh 1348 (lw_L i) [] hq Q) : qb_R mL_law 89 14813 qb_sh 1325 (lw_L i) [] hp Q := by
  refine qb_aloadn dL_law_1325 rfl (i := 1) rfl rfl ?_
  refine lw_arg (j := 1) (x := (hp 1002 (i + 1))) dL_law_1326 dL_law_1327 dL_law_1328 dL_law_1329 dL_law_1330 rfl (by decide) b rfl ?_
  refine lw_call dL_law_1331 rfl qe_mL_law_mX10_told (as := [.inl (hp 1002 (i + 1))]) (b := 0) (rest := []) rfl rfl qb_s0 rfl rfl (Nat.le_of_ble_eq_true rfl) (Nat.le_of_ble_eq_true rfl) ⟨rfl, rfl⟩ (K := fun v hp1 => c_m_told (hp 1002 (i + 1)) hp1 (fun w hp2 => v = w ∧ Inv hp2)) (call_told (hp 1002 (i + 1)) h (K := fun v w hq => v = w ∧ Inv hq) (fun v hq hi => ⟨rfl, hi⟩)) (fun v hp1 e2 e3 k1 => ?_)
  refine qb_aloadn dL_law_1334 rfl (i := 2) rfl rfl ?_
  refine lw_arg (j := 1) (x := (hp 1002 (i + 1))) dL_law_1335 dL_law_1336 dL_law_1337 dL_law_1338 dL_law_1339 rfl (by decide) (b.go e3) (congrFun e2 _) ?_
  refine lw_call dL_law_1340 rfl qe_mL_law_mX11_told (as := [.inl (hp 1002 (i + 1))]) (b := 60) (rest := [.inl v]) rfl rfl qb_s60 rfl rfl (Nat.le_of_ble_eq_true rfl) (Nat.le_of_ble_eq_true rfl) ⟨rfl, rfl⟩ (K := fun w hp2 => v = w ∧ Inv hp2) k1 (fun w hp2 e2' e3' k2 => ?_)
  exact qb_ceq dL_law_1343 rfl (tgt := 1348) rfl (fun _ => kn hp2 k2.2 (e2'.trans e2) (e3'.trans e3)) (fun hne => absurd k2.1 hne)
theorem lw_step (h : Inv hp) (h0 : 0 ≤ i ∧ i ≤ 4000) (h1 : 0 ≤ hp 1003 0 ∧ hp 1003 0 ≤ 3072) (hQ : ∀ hq sh, Q (some (.inl 1)) hq sh) (kn : i + 6 ≤ hp 1003 0 → ∀ hq, Inv hq → hq 1002 = hp 1002 → hq 1003 = hp 1003 → qb_R mL_law 89 14813 qb_sh 18 (lw_L (i + 6)) [] hq Q) : qb_R mL_law 89 14813 qb_sh 18 (lw_L i) [] hp Q := by
  refine qb_iloadn dL_law_18 rfl (i := 3) rfl rfl ?_
  refine qb_aloadn dL_law_19 rfl (i := 0) rfl rfl ?_
  refine qb_slen dL_law_20 rfl ?_
  refine qb_bipush dL_law_21 rfl (by decide) (by decide) ?_
  refine qb_isub dL_law_23 rfl ⟨by omega, by omega⟩ ?_
  refine qb_cgt dL_law_24 (tgt := 1354) rfl rfl (fun _ => ?_) (fun hle => ?_)
  · refine qb_iconst dL_law_1354 rfl (by decide) ?_
    exact qb_zret dL_law_1355 rfl (Or.inr rfl) (by decide) (hQ _ _)
  have b : lw_B i hp := ⟨h0.1, by omega, h1.2⟩
  refine qb_aloadn dL_law_27 rfl (i := 0) rfl rfl ?_
  refine qb_iloadn dL_law_28 rfl (i := 3) rfl rfl ?_
  refine qb_sld dL_law_29 rfl h0.1 (by omega) ?_
  refine qb_bipush dL_law_30 rfl (by decide) (by decide) ?_
  refine qb_iand dL_law_32 rfl ?_
  have kn' : ∀ hq, Inv hq → hq 1002 = hp 1002 → hq 1003 = hp 1003 → qb_R mL_law 89 14813 qb_sh 1348 (lw_L i) [] hq Q := fun hq hi e2 e3 => by
    refine qb_iinc (L' := lw_L (i + 6)) dL_law_1348 rfl (i := 3) rfl ⟨by omega, by omega⟩ (by decide) rfl rfl ?_
    exact qb_goto dL_law_1351 (tgt := 18) rfl (kn (by omega) hq hi e2 e3)
  obtain ⟨j, hj, e⟩ := lw_and (hp 1002 i)
  rw [e]
  clear e
  match j, hj with
  | 0, _ => exact qb_tabIn dL_law_33 (by decide) (by decide) rfl (tgt := 176) rfl (lc_say h b kn')
  | 1, _ => exact qb_tabIn dL_law_33 (by decide) (by decide) rfl (tgt := 199) rfl (lc_wipe h b kn')
  | 2, _ => exact qb_tabIn dL_law_33 (by decide) (by decide) rfl (tgt := 212) rfl (lc_fault h b kn')
  | 3, _ => exact qb_tabIn dL_law_33 (by decide) (by decide) rfl (tgt := 225) rfl (lc_act h b kn')
  | 4, _ => exact qb_tabIn dL_law_33 (by decide) (by decide) rfl (tgt := 248) rfl (lc_brand h b kn')
  | 5, _ => exact qb_tabIn dL_law_33 (by decide) (by decide) rfl (tgt := 291) rfl (lc_grade h b kn')
  | 6, _ => exact qb_tabIn dL_law_33 (by decide) (by decide) rfl (tgt := 324) rfl (lc_set h b kn')
  | 7, _ => exact qb_tabIn dL_law_33 (by decide) (by decide) rfl (tgt := 367) rfl (lc_rule h b kn')
  | 8, _ => exact qb_tabIn dL_law_33 (by decide) (by decide) rfl (tgt := 400) rfl (lc_land h b kn')
  | 9, _ => exact qb_tabIn dL_law_33 (by decide) (by decide) rfl (tgt := 463) rfl (lc_lead h b kn')
  | 10, _ => exact qb_tabIn dL_law_33 (by decide) (by decide) rfl (tgt := 496) rfl (lc_landing h b kn')
  | 11, _ => exact qb_tabIn dL_law_33 (by decide) (by decide) rfl (tgt := 529) rfl (lc_salt h b kn')
  | 12, _ => exact qb_tabIn dL_law_33 (by decide) (by decide) rfl (tgt := 582) rfl (lc_barrel h b kn')
  | 13, _ => exact qb_tabIn dL_law_33 (by decide) (by decide) rfl (tgt := 625) rfl (lc_filled h b kn')
  | 14, _ => exact qb_tabIn dL_law_33 (by decide) (by decide) rfl (tgt := 678) rfl (lc_open h b kn')
  | 15, _ => exact qb_tabIn dL_law_33 (by decide) (by decide) rfl (tgt := 721) rfl (lc_judge h b kn')
  | 16, _ => exact qb_tabIn dL_law_33 (by decide) (by decide) rfl (tgt := 790) rfl (lc_absolve h b kn')
  | 17, _ => exact qb_tabIn dL_law_33 (by decide) (by decide) rfl (tgt := 803) rfl (lc_cause h b kn')
  | 18, _ => exact qb_tabIn dL_law_33 (by decide) (by decide) rfl (tgt := 826) rfl (lc_explained h b kn')
  | 19, _ => exact qb_tabIn dL_law_33 (by decide) (by decide) rfl (tgt := 839) rfl (lc_rival h b kn')
  | 20, _ => exact qb_tabIn dL_law_33 (by decide) (by decide) rfl (tgt := 872) rfl (lc_engage h b kn')
  | 21, _ => exact qb_tabIn dL_law_33 (by decide) (by decide) rfl (tgt := 925) rfl (lc_free h b kn')
  | 22, _ => exact qb_tabIn dL_law_33 (by decide) (by decide) rfl (tgt := 968) rfl (lc_freeOn h b kn')
  | 23, _ => exact qb_tabIn dL_law_33 (by decide) (by decide) rfl (tgt := 1001) rfl (lc_cost h b kn')
  | 24, _ => exact qb_tabIn dL_law_33 (by decide) (by decide) rfl (tgt := 1054) rfl (lc_account h b kn')
  | 25, _ => exact qb_tabIn dL_law_33 (by decide) (by decide) rfl (tgt := 1097) rfl (lc_spread h b kn')
  | 26, _ => exact qb_tabIn dL_law_33 (by decide) (by decide) rfl (tgt := 1120) rfl (lc_settle h b kn')
  | 27, _ => exact qb_tabIn dL_law_33 (by decide) (by decide) rfl (tgt := 1133) rfl (lc_ship h b kn')
  | 28, _ => exact qb_tabIn dL_law_33 (by decide) (by decide) rfl (tgt := 1176) rfl (lc_price h b kn')
  | 29, _ => exact qb_tabIn dL_law_33 (by decide) (by decide) rfl (tgt := 1229) rfl (lc_priceOn h b kn')
  | 30, _ => exact qb_tabIn dL_law_33 (by decide) (by decide) rfl (tgt := 1272) rfl (lc_load h b kn')
  | 31, _ => exact qb_tabIn dL_law_33 (by decide) (by decide) rfl (tgt := 1325) rfl (lc_told h b kn')
  | n + 32, hj => exact absurd hj (by omega)
end
theorem lw_loop {Q : Option qb_V → qb_H → qb_Sh → Prop} (hQ : ∀ hq sh, Q (some (.inl 1)) hq sh) : ∀ (n : Nat) (i : Int) (hp : qb_H), Inv hp → 0 ≤ i ∧ i ≤ 4000 → 0 ≤ hp 1003 0 ∧ hp 1003 0 ≤ 3072 → hp 1003 0 - i ≤ (n : Int) → qb_R mL_law 89 14813 qb_sh 18 (lw_L i) [] hp Q
  | 0, i, hp, h, h0, h1, hn => lw_step h h0 h1 hQ (fun hle => absurd hle (by omega))
  | n + 1, i, hp, h, h0, h1, hn => lw_step h h0 h1 hQ (fun hle hq hi _ e3 => lw_loop hQ n (i + 6) hq hi (by omega) (by rw [e3]; exact h1) (by rw [e3]; omega))
theorem law_R {hp : qb_H} (h1 : 0 ≤ hp 1003 0 ∧ hp 1003 0 ≤ 3072) {Q : Option qb_V → qb_H → qb_Sh → Prop} (hQ : ∀ hq sh, Q (some (.inl 1)) hq sh) : qb_R mL_law 0 0 [] 0 [some (.inr (.inl 1002)), none, none, none] [] hp Q := by
  refine z0_mL_law (hp := hp) ?_
  rw [zs_end]
  have e3 : zh hp 1003 = hp 1003 := zh_n (by decide +kernel)
  exact lw_loop hQ 3072 0 (zh hp) zh_inv (by decide) (by rw [e3]; exact h1) (by rw [e3]; omega)
