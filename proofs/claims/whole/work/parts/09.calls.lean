/-! calls: a method's whole run out of its rows (qb_met), and a row a call -/
def qb_Pc (D : va_G) (cI : ClassId) (S : qb_S) (ad : Nat → Nat) (hp : qb_H) (sh : qb_Sh) (sz : Nat) (as : List qb_V) : Array Value → State → Prop := va_Pc (as.map (qb_tv ad)) (fun U => U.heap.size = sz ∧ va_P D vwCl (qb_ws ad cI hp sh) U.heap ∧ va_K D vwCl [(cI, .int)] U ∧ qb_nest U ∧ qb_St S (va_A (qb_ws ad cI hp sh) sz) U U.heap)
theorem qb_sl1 (ad : Nat → Nat) : ∀ (as : List qb_V), (∀ v ∈ as, qb_cat v = 1) → (lg_sl (as.map (qb_tv ad))).length = as.length ∧ ∀ (n i : Nat) (v : qb_V), as[i]? = some v → (n + i, qb_tv ad v) ∈ lv_args n (as.map (qb_tv ad)) := by
  intro as
  induction as with
  | nil => exact fun _ => ⟨rfl, fun n i v h => by simp at h⟩
  | cons a as ih =>
    intro h
    have ha : (qb_tv ad a).category = 1 := by rw [qb_cat_]; exact h a List.mem_cons_self
    obtain ⟨h1, h2⟩ := ih (fun v hv => h v (List.mem_cons_of_mem _ hv))
    have hne : ¬ (qb_tv ad a).category = 2 := by rw [ha]; decide
    refine ⟨?_, fun n i v hi => ?_⟩
    · have e : lg_sl ((a :: as).map (qb_tv ad)) = .val (qb_tv ad a) :: lg_sl (as.map (qb_tv ad)) := by simp [lg_sl, hne]
      rw [e, List.length_cons, h1, List.length_cons]
    · rw [List.map_cons]
      simp only [lv_args, hne, if_false]
      rcases i with _ | i
      · simp only [List.getElem?_cons_zero, Option.some.injEq] at hi
        subst hi
        exact List.mem_cons_self
      · rw [List.getElem?_cons_succ] at hi
        have := h2 (n + 1) i v hi
        rw [show n + (i + 1) = n + 1 + i by omega]
        exact List.mem_cons_of_mem _ this
theorem qb_met {M : qb_M} (hpl : plainName (qb_nm M).cls = true) {sh : qb_Sh} {hp : qb_H} {Q : Option qb_V → qb_H → qb_Sh → Prop} {as : List qb_V} (hok : ∀ v ∈ as, qb_ok sh.length v) (hnl : ∀ v ∈ as, qb_cat v = 1) (hlen : as.length ≤ qb_ml M)
    (k : qb_R M 0 0 sh 0 (as.map some ++ List.replicate (qb_ml M - as.length) none) [] hp Q) (l : Launch) (D : va_G) (cI : ClassId) (S : qb_S) (ad : Nat → Nat) (sz : Nat) (hD : va_D (fun _ => True) (qb_ws ad cI hp sh)) (hin : ∀ c i, qb_in (hp c i)) (hwf : qb_wf sh) (hS : ad 1000 = S.1.1 ∧ ad 1001 = S.1.2.1 ∧ ad 1002 = S.1.2.2 ∧ hp 1002 = S.2.1 ∧ hp 1003 = S.2.2) :
    Met l (qb_nm M) (Cond.code (qb_nm M) (qb_by M) (qb_ml M) (qb_rt M) :: qb_wg) (qb_rm M) (qb_Pc D cI S ad hp sh sz as) (qb_Q D cI S sh.length ad (va_A (qb_ws ad cI hp sh) sz) Q) (qb_mc M) (qb_ms M) (va_A (qb_ws ad cI hp sh) sz) := by
  refine Met.ofW (cc := qb_by M) (maxL := qb_ml M) (ret := qb_rt M) hpl rfl ?_
  intro p e s m args below meth cd s₁ B hml hv
  obtain ⟨rfl, hsz, hP, hK, hnest, hSt⟩ := hv
  subst hsz
  have hts := atoms_spec (ws := Cond.code (qb_nm M) (qb_by M) (qb_ml M) (qb_rt M) :: qb_wg) B.pre
  have hC : qb_Cx M p s m (as.map (qb_tv ad)).toArray meth cd D cI S (va_A (qb_ws ad cI hp sh) s.heap.size) := ⟨B.exec, B.bytes, hml, B.returns, B.notSynchronized, (name_of_methodNamed B.named B.method).1, findClass_of_methodNamed B.named, fun w hw => hts w (List.mem_cons_of_mem _ hw), hK, hnest, fun q h => Or.inr h, hSt⟩
  obtain ⟨e1, e2⟩ := qb_sl1 ad as hnl
  have hl := lv_entry (as.map (qb_tv ad)) (n := qb_ml M) (by rw [e1]; exact hlen)
  rw [lg_entry_eq]
  refine k p l e s m _ below meth cd D cI S sh.length ad ad _ s.heap [] _ hC ⟨hP, hD.self, hin, hwf⟩ va_S.rf ⟨hl.1, hl.2.1, fun i v hi => ?_⟩ (fun v h => absurd h List.not_mem_nil) ⟨hS.1, hS.2.1, hS.2.2.1, hS.2.2.2.1, hS.2.2.2.2, Nat.le_refl _, fun _ _ => rfl⟩
  have hi2 : as[i]? = some v := by
    rcases Nat.lt_or_ge i as.length with g | g
    · rw [List.getElem?_append_left (by simpa using g), List.getElem?_map] at hi
      rcases h : as[i]? with _ | w
      · rw [h] at hi; cases hi
      · rw [h] at hi
        simp only [Option.map_some, Option.some.injEq] at hi
        rw [hi]
    · rw [List.getElem?_append_right (by simpa using g)] at hi
      have := List.mem_of_getElem? hi
      rw [List.mem_replicate] at this
      cases this.2
  refine ⟨hok v (List.mem_of_getElem? hi2), ?_⟩
  have := hl.2.2 _ (e2 0 i v hi2)
  rw [Nat.zero_add] at this
  exact this
theorem qb_blind {D : va_G} {cI : ClassId} {S : qb_S} {ad : Nat → Nat} {hp : qb_H} {sh : qb_Sh} {sz : Nat} {as : List qb_V} : FrameBlind (qb_Pc D cI S ad hp sh sz as) := by
  intro a U g mk q
  obtain ⟨h0, h1, h2, h3, h4, h5⟩ := q
  exact ⟨h0, h1, h2, va_K.moved (u := U) (U := U.calling g mk a) (Vm.Alike.refl U.vm) h3, ⟨va_Nw.same (u := U) rfl rfl h4.1, va_Nw.same (u := U) rfl rfl h4.2⟩, h5.go (U := U.calling g mk a) (Vm.Alike.refl U.vm) (fun _ _ _ => rfl) (fun _ _ h => h)⟩
/-- what is asked of the tables and of the room at a call -/
def qb_CB (M N : qb_M) (n : Nat) : Prop := Cond.code (qb_nm N) (qb_by N) (qb_ml N) (qb_rt N) ∈ qb_wg ∧ Cond.initialized (qb_nm N).cls ∈ qb_wg ∧ plainName (qb_nm N).cls = true ∧ ((qb_nm N).cls ≠ "java/lang/invoke/MethodHandle" ∧ (qb_nm N).cls ≠ "java/lang/invoke/VarHandle" ∧ (parseMethodDescriptor (qb_nm N).desc).map (fun d => d.parameters.length) = some n) ∧ (qb_fr N + 1 ≤ qb_fr M ∧ 8 + (qb_ml N + 11) + qb_lo N ≤ qb_lo M)
def qb_CV (M N : qb_M) (idx n : Nat) : Prop := qb_CB M N n ∧ Cond.methodLink (qb_nm M).cls idx (qb_nm N) ∈ qb_wg ∧ Cond.instanceMethod (qb_nm N) ∈ qb_wg ∧ Cond.selects (qb_nm N).cls (qb_nm N) (qb_nm N) ∈ qb_wg
def qb_CS (M N : qb_M) (idx n : Nat) : Prop := qb_CB M N n ∧ Cond.methodLink (qb_nm M).cls idx (qb_nm N) ∈ qb_wg ∧ Cond.static (qb_nm N) ∈ qb_wg
def qb_CI (M N : qb_M) (idx n : Nat) : Prop := qb_CB M N n ∧ Cond.methodLink (qb_nm M).cls idx (qb_nm N) ∈ qb_wg ∧ Cond.instanceMethod (qb_nm N) ∈ qb_wg ∧ (qb_nm N).name = "<init>" ∧ qb_rt N = none
section
variable {M N : qb_M} {cs ss : Nat} {sh : qb_Sh} {pc : Nat} {L : List (Option qb_V)} {st rest : List qb_V} {hp : qb_H} {Q : Option qb_V → qb_H → qb_Sh → Prop}
theorem qb_after {p : Program} {l : Launch} {e : Env} {s : State} {m : MethodId} {args : Array Value} {below : List Frame} {meth : Method} {cd : Code} {D : va_G} {cI : ClassId} {S : qb_S} {n0 : Nat} {ad0 ad : Nat → Nat} {A : Nat → Prop} {H : Heap} {locs : List Loc} {ls : Array Slot} {stk : List Value} {a : Array Value} {mc ms : Nat}
    (hr : va_Run p l e (qb_rm M) s m args below meth cd H locs cs ss mc ms (F0 m pc ls stk) (rest.map (qb_tv ad)) (qb_Q D cI S sh.length ad (va_A (qb_ws ad cI hp sh) H.size) (fun r hp' sh' => qb_R M (cs + mc) (ss + ms) sh' (pc + 3) L (r.toList ++ rest) hp' Q) a) (va_A (qb_ws ad cI hp sh) H.size))
    (hC : qb_Cx M p s m args meth cd D cI S A) (hW : qb_Wd D cI ad hp sh A H) (hS : va_S A s.heap H locs) (hL : qb_L ad sh.length (qb_ml M) ls L) (hst : ∀ v ∈ rest, qb_ok sh.length v) (hN : qb_N S n0 ad0 ad hp sh) :
    W p l e (qb_rm M) s m args below meth cd H locs cs ss (MQ below (qb_Q D cI S n0 ad0 A Q) args s (qb_mc M) (qb_ms M) A) (F0 m pc ls stk) := by
  intro T hT X
  obtain ⟨v, st₀, t, T', Lo, h0, X', hLo, e1, e2, ⟨⟨r, hp', sh', ad', hv, hq, hok, hW', hN'⟩, hz, hk⟩, hst2⟩ := hr T hT X
  have hv2 : v = r.map (qb_tv ad') := by cases hv; rfl
  subst hv2
  rw [h0] at hz hk
  have hfree : ∀ q, va_A (qb_ws ad cI hp sh) H.size q → A q := by
    intro q h
    rcases h with ⟨k, ev, h⟩ | h
    · exact hW.2.1.2 k (q, ev) h
    · exact hC.2.2.2.2.2.2.2.2.2.2.1 q (Nat.le_trans hS.1 h)
  obtain ⟨g1, g2, g3, g4, g5, g6, g7⟩ := hN'
  obtain ⟨b1, b2, b3, b4, b5, b6, b7⟩ := hN
  have hT' : T'.heap = t.heap := e1
  have hS' : va_S A s.heap T'.heap (locs ++ Lo) := ⟨Nat.le_trans hS.1 (by rw [hT']; exact hz), fun q h1 h2 => by rw [hT', hk q (Nat.lt_of_lt_of_le h1 hS.1) (fun z => h2 (hfree q z))]; exact hS.2.1 q h1 h2, fun q hq2 => by
    rcases List.mem_append.mp hq2 with h | h
    · exact hS.2.2 q h
    · exact hfree _ (hLo q h)⟩
  have hlen : sh.length ≤ sh'.length := g6
  have K := hq p l e s m args below meth cd D cI S n0 ad0 ad' A T'.heap (locs ++ Lo) ls hC ⟨by rw [hT']; exact hW'.1, hW'.2.1.weaken (fun _ _ _ h => hfree _ h), hW'.2.2.1, hW'.2.2.2⟩ hS' (qb_L_ad hL g7 hlen)
    (fun v hv => by
      rcases List.mem_append.mp hv with h | h
      · exact hok v (by cases r <;> simp_all)
      · exact qb_ok_up (hst v h) hlen)
    ⟨g1, g2, g3, g4, g5, Nat.le_trans b6 g6, fun k hk => (g7 k (by omega)).trans (b7 k hk)⟩
  rw [List.map_append, qb_map_ad hst g7, show r.toList.map (qb_tv ad') = (r.map (qb_tv ad')).toList by cases r <;> rfl] at K
  obtain ⟨t2, a1, a2⟩ := K T' rfl X'
  exact ⟨t2, hst2 t2 a1, a2⟩
theorem qb_code_w {M N : qb_M} {n : Nat} (h : qb_CB M N n) : GoodIn qb_wg (Cond.code (qb_nm N) (qb_by N) (qb_ml N) (qb_rt N) :: qb_wg) := qb_wg_code h.1
theorem qb_pre {l : Launch} {s : State} {D : va_G} {cI : ClassId} {S : qb_S} {ad : Nat → Nat} {A : Nat → Prop} {H : Heap} {as : List qb_V} {p : Program} {m : MethodId} {args : Array Value} {meth : Method} {cd : Code} {n0 : Nat} {ad0 : Nat → Nat} {locs : List Loc} (hC : qb_Cx M p s m args meth cd D cI S A) (hW : qb_Wd D cI ad hp sh A H) (hS : va_S A s.heap H locs) (hN : qb_N S n0 ad0 ad hp sh) :
    ∀ U : State, U.heap = H → s.WarmedH U.vm → qb_Pc D cI S ad hp sh H.size as (as.map (qb_tv ad)).toArray U := by
  intro U hU hWm
  refine ⟨rfl, by rw [hU], by rw [hU]; exact hW.1, va_K.moved hWm.alike hC.2.2.2.2.2.2.2.2.1, ⟨va_Nw.warmM hWm hC.2.2.2.2.2.2.2.2.2.1.1, va_Nw.warmM hWm hC.2.2.2.2.2.2.2.2.2.1.2⟩, ?_⟩
  refine hC.2.2.2.2.2.2.2.2.2.2.2.go hWm.alike (fun a h1 h2 => by rw [hU]; exact hS.2.1 a h1 h2) (fun a h1 h2 h3 => ?_)
  rcases h3 with ⟨k, ev, h⟩ | h
  · exact h2 (hW.2.1.2 k (a, ev) h)
  · exact absurd hS.1 (by omega)
theorem qb_callV {idx n b ci : Nat} {as : List qb_V} {sl : List (Option (Option Nat))} {Tb : u_T} {Nf : Nat} (d : decode (qb_by M) pc = .ok (.invokevirtual idx, 3)) (cw : qb_CV M N idx n) (hn : as.length = n) (hst' : st = as.reverse ++ (.inr (.inl b) :: rest)) (hs : sh[b]? = some (.inl (ci, sl))) (hci : vwCl[ci]? = some ((qb_nm N).cls, Tb, Nf)) (hnl : (as.all fun v => qb_cat v == 1) = true) (hml : as.length + 1 ≤ qb_ml N) (hr : (rest.map qb_cat).sum ≤ 8 ∧ cs + qb_mc N ≤ qb_mc M ∧ ss + qb_ms N ≤ qb_ms M)
    (k : qb_R N 0 0 sh 0 ((.inr (.inl b) :: as).map some ++ List.replicate (qb_ml N - (as.length + 1)) none) [] hp (fun r hp' sh' => qb_R M (cs + qb_mc N) (ss + qb_ms N) sh' (pc + 3) L (r.toList ++ rest) hp' Q)) : qb_R M cs ss sh pc L st hp Q := by
  subst hst'
  intro p l e s m args below meth cd D cI S n0 ad0 ad A H locs ls hC hW hS hL hst hN
  have hok : ∀ v ∈ Sum.inr (.inl b) :: as, qb_ok sh.length v := fun v hv => by
    rcases List.mem_cons.mp hv with rfl | h
    · exact hst _ (by simp)
    · exact hst _ (by simp [h])
  have hokr : ∀ v ∈ rest, qb_ok sh.length v := fun v hv => hst _ (by simp [hv])
  have hM := qb_met (M := N) (as := .inr (.inl b) :: as) cw.1.2.2.1 hok (fun v hv => by
    rcases List.mem_cons.mp hv with rfl | h
    · rfl
    · simpa using List.all_eq_true.mp hnl v h) (by simpa using hml) (by simpa using k) l D cI S ad H.size (hW.2.1.weaken (fun _ _ _ _ => trivial)) hW.2.2.1 hW.2.2.2 ⟨hN.1, hN.2.1, hN.2.2.1, hN.2.2.2.1, hN.2.2.2.2.1⟩
  have hts := hC.2.2.2.2.2.2.2.1
  refine qb_after (rest := rest) (mc := qb_mc N) (ms := qb_ms N) (va_runV (b := ad b) (As := as.map (qb_tv ad)) ⟨hC.1, hC.2.1, hC.2.2.1, hC.2.2.2.2.2.2.1, hts⟩ hM ⟨callB_of n hts (qb_code_w cw.1) rfl rfl rfl (hts _ cw.1.2.1) (hts _ cw.2.1) cw.1.2.2.2.1 cw.1.2.2.2.2, hts _ cw.2.2.1, hts _ cw.2.2.2⟩
    ⟨qb_blind, va_recv hC.2.2.2.2.2.2.2.2.1 hW.1 hci (qb_ws_at hs), qb_pre (l := l) hC hW hS hN⟩ rfl (by simpa using hn) hL.1 (by simp [qb_tv]) (lv_room (by rw [qb_cats]; exact hr.1)) d ⟨hr.2.1, hr.2.2⟩) hC hW hS hL hokr hN
theorem qb_callS {idx n : Nat} {as : List qb_V} (d : decode (qb_by M) pc = .ok (.invokestatic idx, 3)) (cw : qb_CS M N idx n) (hn : as.length = n) (hst' : st = as.reverse ++ rest) (hnl : (as.all fun v => qb_cat v == 1) = true) (hml : as.length ≤ qb_ml N) (hr : (rest.map qb_cat).sum ≤ 8 ∧ cs + qb_mc N ≤ qb_mc M ∧ ss + qb_ms N ≤ qb_ms M)
    (k : qb_R N 0 0 sh 0 (as.map some ++ List.replicate (qb_ml N - as.length) none) [] hp (fun r hp' sh' => qb_R M (cs + qb_mc N) (ss + qb_ms N) sh' (pc + 3) L (r.toList ++ rest) hp' Q)) : qb_R M cs ss sh pc L st hp Q := by
  subst hst'
  intro p l e s m args below meth cd D cI S n0 ad0 ad A H locs ls hC hW hS hL hst hN
  have hok : ∀ v ∈ as, qb_ok sh.length v := fun v hv => hst _ (by simp [hv])
  have hokr : ∀ v ∈ rest, qb_ok sh.length v := fun v hv => hst _ (by simp [hv])
  have hM := qb_met (M := N) (as := as) cw.1.2.2.1 hok (fun v hv => by simpa using List.all_eq_true.mp hnl v hv) hml k l D cI S ad H.size (hW.2.1.weaken (fun _ _ _ _ => trivial)) hW.2.2.1 hW.2.2.2 ⟨hN.1, hN.2.1, hN.2.2.1, hN.2.2.2.1, hN.2.2.2.2.1⟩
  have hts := hC.2.2.2.2.2.2.2.1
  refine qb_after (rest := rest) (mc := qb_mc N) (ms := qb_ms N) (va_runS (As := as.map (qb_tv ad)) ⟨hC.1, hC.2.1, hC.2.2.1, hC.2.2.2.2.2.2.1, hts⟩ hM ⟨callB_of n hts (qb_code_w cw.1) rfl rfl rfl (hts _ cw.1.2.1) (hts _ cw.2.1) cw.1.2.2.2.1 cw.1.2.2.2.2, hts _ cw.2.2⟩
    ⟨qb_blind, qb_pre (l := l) hC hW hS hN⟩ rfl (by simpa using hn) hL.1 (by simp [qb_tv]) (lv_room (by rw [qb_cats]; exact hr.1)) d ⟨hr.2.1, hr.2.2⟩) hC hW hS hL hokr hN
theorem qb_callI {idx n b : Nat} {as : List qb_V} (d : decode (qb_by M) pc = .ok (.invokespecial idx, 3)) (cw : qb_CI M N idx n) (hn : as.length = n) (hst' : st = as.reverse ++ (.inr (.inl b) :: rest)) (hnl : (as.all fun v => qb_cat v == 1) = true) (hml : as.length + 1 ≤ qb_ml N) (hr : (rest.map qb_cat).sum ≤ 8 ∧ cs + qb_mc N ≤ qb_mc M ∧ ss + qb_ms N ≤ qb_ms M)
    (k : qb_R N 0 0 sh 0 ((.inr (.inl b) :: as).map some ++ List.replicate (qb_ml N - (as.length + 1)) none) [] hp (fun r hp' sh' => qb_R M (cs + qb_mc N) (ss + qb_ms N) sh' (pc + 3) L (r.toList ++ rest) hp' Q)) : qb_R M cs ss sh pc L st hp Q := by
  subst hst'
  intro p l e s m args below meth cd D cI S n0 ad0 ad A H locs ls hC hW hS hL hst hN
  have hok : ∀ v ∈ Sum.inr (.inl b) :: as, qb_ok sh.length v := fun v hv => by
    rcases List.mem_cons.mp hv with rfl | h
    · exact hst _ (by simp)
    · exact hst _ (by simp [h])
  have hokr : ∀ v ∈ rest, qb_ok sh.length v := fun v hv => hst _ (by simp [hv])
  have hM := qb_met (M := N) (as := .inr (.inl b) :: as) cw.1.2.2.1 hok (fun v hv => by
    rcases List.mem_cons.mp hv with rfl | h
    · rfl
    · simpa using List.all_eq_true.mp hnl v h) (by simpa using hml) (by simpa using k) l D cI S ad H.size (hW.2.1.weaken (fun _ _ _ _ => trivial)) hW.2.2.1 hW.2.2.2 ⟨hN.1, hN.2.1, hN.2.2.1, hN.2.2.2.1, hN.2.2.2.2.1⟩
  have hts := hC.2.2.2.2.2.2.2.1
  have hG := qb_code_w cw.1
  rw [cw.2.2.2.2] at hM hG
  refine qb_after (rest := rest) (mc := qb_mc N) (ms := qb_ms N) (va_runI (b := ad b) (As := as.map (qb_tv ad)) ⟨hC.1, hC.2.1, hC.2.2.1, hC.2.2.2.2.2.2.1, hts⟩ hM ⟨callB_of n hts hG rfl rfl rfl (hts _ cw.1.2.1) (hts _ cw.2.1) cw.1.2.2.2.1 cw.1.2.2.2.2, cw.2.2.2.1, hts _ cw.2.2.1⟩
    ⟨qb_blind, qb_pre (l := l) hC hW hS hN⟩ rfl (by simpa using hn) hL.1 (by simp [qb_tv]) (lv_room (by rw [qb_cats]; exact hr.1)) d ⟨hr.2.1, hr.2.2⟩) hC hW hS hL hokr hN
/-- nest mates: QuayBrands.within out of Acts; Cask's constructor out of QuayBrands' -/
theorem qb_callSN {n : Nat} {as : List qb_V} (d : decode (qb_by M) pc = .ok (.invokestatic 30, 3)) (cw : qb_CB M N n) (how : (qb_nm M).cls = "QuayBrands$Acts") (hnm : qb_nm N = ⟨"QuayBrands", "within", "(III)Z"⟩) (hstat : Cond.static (qb_nm N) ∈ qb_wg) (hn : as.length = n) (hst' : st = as.reverse ++ rest) (hnl : (as.all fun v => qb_cat v == 1) = true) (hml : as.length ≤ qb_ml N) (hr : (rest.map qb_cat).sum ≤ 8 ∧ cs + qb_mc N ≤ qb_mc M ∧ ss + qb_ms N ≤ qb_ms M)
    (k : qb_R N 0 0 sh 0 (as.map some ++ List.replicate (qb_ml N - as.length) none) [] hp (fun r hp' sh' => qb_R M (cs + qb_mc N) (ss + qb_ms N) sh' (pc + 3) L (r.toList ++ rest) hp' Q)) : qb_R M cs ss sh pc L st hp Q := by
  subst hst'
  intro p l e s m args below meth cd D cI S n0 ad0 ad A H locs ls hC hW hS hL hst hN
  have hok : ∀ v ∈ as, qb_ok sh.length v := fun v hv => hst _ (by simp [hv])
  have hokr : ∀ v ∈ rest, qb_ok sh.length v := fun v hv => hst _ (by simp [hv])
  have hM := qb_met (M := N) (as := as) cw.2.2.1 hok (fun v hv => by simpa using List.all_eq_true.mp hnl v hv) hml k l D cI S ad H.size (hW.2.1.weaken (fun _ _ _ _ => trivial)) hW.2.2.1 hW.2.2.2 ⟨hN.1, hN.2.1, hN.2.2.1, hN.2.2.2.1, hN.2.2.2.2.1⟩
  have hts := hC.2.2.2.2.2.2.2.1
  have hown := hC.2.2.2.2.2.2.1
  rw [how] at hown
  refine qb_after (rest := rest) (mc := qb_mc N) (ms := qb_ms N) (va_runSN (host := "QuayBrands") (own := "QuayBrands$Acts") (As := as.map (qb_tv ad)) ⟨hC.1, hC.2.1, hC.2.2.1, hown, hts⟩ hM ⟨va_cnB n hts (qb_code_w cw) rfl rfl rfl (by rw [hnm]; exact hC.2.2.2.2.2.2.2.2.2.1.2) (hts _ cw.2.1) cw.2.2.2.1 cw.2.2.2.2, hts _ hstat, trivial⟩
    ⟨qb_blind, qb_pre (l := l) hC hW hS hN⟩ rfl (by simpa using hn) hL.1 (by simp [qb_tv]) (lv_room (by rw [qb_cats]; exact hr.1)) d ⟨hr.2.1, hr.2.2⟩) hC hW hS hL hokr hN
theorem qb_callIN {n b : Nat} {as : List qb_V} (d : decode (qb_by M) pc = .ok (.invokespecial 36, 3)) (cw : qb_CB M N n) (how : (qb_nm M).cls = "QuayBrands") (hnm : qb_nm N = ⟨"QuayBrands$Cask", "<init>", "()V"⟩) (hinst : Cond.instanceMethod (qb_nm N) ∈ qb_wg) (hrt : qb_rt N = none) (hn : as.length = n) (hst' : st = as.reverse ++ (.inr (.inl b) :: rest)) (hnl : (as.all fun v => qb_cat v == 1) = true) (hml : as.length + 1 ≤ qb_ml N) (hr : (rest.map qb_cat).sum ≤ 8 ∧ cs + qb_mc N ≤ qb_mc M ∧ ss + qb_ms N ≤ qb_ms M)
    (k : qb_R N 0 0 sh 0 ((.inr (.inl b) :: as).map some ++ List.replicate (qb_ml N - (as.length + 1)) none) [] hp (fun r hp' sh' => qb_R M (cs + qb_mc N) (ss + qb_ms N) sh' (pc + 3) L (r.toList ++ rest) hp' Q)) : qb_R M cs ss sh pc L st hp Q := by
  subst hst'
  intro p l e s m args below meth cd D cI S n0 ad0 ad A H locs ls hC hW hS hL hst hN
  have hok : ∀ v ∈ Sum.inr (.inl b) :: as, qb_ok sh.length v := fun v hv => by
    rcases List.mem_cons.mp hv with rfl | h
    · exact hst _ (by simp)
    · exact hst _ (by simp [h])
  have hokr : ∀ v ∈ rest, qb_ok sh.length v := fun v hv => hst _ (by simp [hv])
  have hM := qb_met (M := N) (as := .inr (.inl b) :: as) cw.2.2.1 hok (fun v hv => by
    rcases List.mem_cons.mp hv with rfl | h
    · rfl
    · simpa using List.all_eq_true.mp hnl v h) (by simpa using hml) (by simpa using k) l D cI S ad H.size (hW.2.1.weaken (fun _ _ _ _ => trivial)) hW.2.2.1 hW.2.2.2 ⟨hN.1, hN.2.1, hN.2.2.1, hN.2.2.2.1, hN.2.2.2.2.1⟩
  have hts := hC.2.2.2.2.2.2.2.1
  have hown := hC.2.2.2.2.2.2.1
  rw [how] at hown
  have hG := qb_code_w cw
  rw [hrt] at hM hG
  refine qb_after (rest := rest) (mc := qb_mc N) (ms := qb_ms N) (va_runIN (host := "QuayBrands") (own := "QuayBrands") (b := ad b) (As := as.map (qb_tv ad)) ⟨hC.1, hC.2.1, hC.2.2.1, hown, hts⟩ hM ⟨va_cnB n hts hG rfl rfl rfl (by rw [hnm]; exact hC.2.2.2.2.2.2.2.2.2.1.1) (hts _ cw.2.1) cw.2.2.2.1 cw.2.2.2.2, by rw [hnm], hts _ hinst⟩
    ⟨qb_blind, qb_pre (l := l) hC hW hS hN⟩ rfl (by simpa using hn) hL.1 (by simp [qb_tv]) (lv_room (by rw [qb_cats]; exact hr.1)) d ⟨hr.2.1, hr.2.2⟩) hC hW hS hL hokr hN
end
