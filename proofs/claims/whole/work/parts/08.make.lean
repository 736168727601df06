/-! Math, copies, ends, makings, calls (wip/whole/gen/rows3.py) -/
theorem qb_maxc : Cond.code Lib.Math.max.name Lib.Math.max.code 2 (some .int) ∈ qb_wg := qb_wg_in 511 (by decide +kernel) (by decide +kernel)
theorem qb_maxs : Cond.static Lib.Math.max.name ∈ qb_wg := qb_wg_in 510 (by decide +kernel) (by decide +kernel)
theorem qb_minc : Cond.code Lib.Math.min.name Lib.Math.min.code 2 (some .int) ∈ qb_wg := qb_wg_in 518 (by decide +kernel) (by decide +kernel)
theorem qb_mins : Cond.static Lib.Math.min.name ∈ qb_wg := qb_wg_in 517 (by decide +kernel) (by decide +kernel)
theorem qb_mathi : Cond.initialized "java/lang/Math" ∈ qb_wg := qb_wg_in 72 (by decide +kernel) (by decide +kernel)
theorem qb_sysi : Cond.initialized "java/lang/System" ∈ qb_wg := qb_wg_in 74 (by decide +kernel) (by decide +kernel)
theorem qb_acn : Cond.native arraycopyName ∈ qb_wg := qb_wg_in 873 (by decide +kernel) (by decide +kernel)
theorem qb_acs : Cond.static arraycopyName ∈ qb_wg := qb_wg_in 872 (by decide +kernel) (by decide +kernel)
theorem qb_aci : Cond.arrayClass .int ∈ qb_wg := qb_wg_in 99 (by decide +kernel) (by decide +kernel)
theorem qb_obi : Cond.instanceMethod Lib.objectInit ∈ qb_wg := qb_wg_in 81 (by decide +kernel) (by decide +kernel)
theorem qb_obc : Cond.code Lib.objectInit ⟨#[0xb1]⟩ 1 none ∈ qb_wg := qb_wg_in 82 (by decide +kernel) (by decide +kernel)
section
variable {M : qb_M} {cs ss : Nat} {sh : qb_Sh} {pc : Nat} {L : List (Option qb_V)} {st : List qb_V} {hp : qb_H} {Q : Option qb_V → qb_H → qb_Sh → Prop}
theorem qb_mmax {pc' : Nat} {idx : Nat} {x y : Int} (d : decode (qb_by M) pc = .ok (.invokestatic idx, 3)) (hpc : pc + 3 = pc') (hl : Cond.methodLink (qb_nm M).cls idx Lib.Math.max.name ∈ qb_wg) (hr : 1 ≤ qb_fr M ∧ (st.map qb_cat).sum + 13 ≤ qb_lo M ∧ cs ≤ qb_mc M ∧ ss ≤ qb_ms M) (kk : qb_R M cs ss sh pc' L (.inl (max x y) :: st) hp Q) : qb_R M cs ss sh pc L (.inl y :: .inl x :: st) hp Q := by
  subst hpc
  intro p l e s m args below meth cd D cI S n0 ad0 ad A H locs ls hC hW hS hL hst hN
  have h2 := qb_st2 hst
  refine va_mmax (x := Int32.ofInt x) (y := Int32.ofInt y) hC.1 hC.2.1 (hC.2.2.1.trans hL.1.symm) hC.2.2.2.2.2.2.1 (hC.2.2.2.2.2.2.2.1 _ hl) (hC.2.2.2.2.2.2.2.1 _ qb_maxs) (hC.2.2.2.2.2.2.2.1 _ qb_mathi) (hC.2.2.2.2.2.2.2.1 _ qb_maxc) hr.1 (by rw [qb_cats]; exact hr.2.1) hr.2.2.1 hr.2.2.2 d ?_
  have he : (if Int32.ofInt x < Int32.ofInt y then Int32.ofInt y else Int32.ofInt x) = Int32.ofInt (max x y) := by
    simp only [qb_ltI h2.1 h2.2.1, qb_ltI h2.2.1 h2.1]
    split
    · rw [show max x y = y by omega]
    · rw [show max x y = x by omega]
  rw [he]
  exact kk p l e s m args below meth cd D cI S n0 ad0 ad A H locs ls hC hW hS hL (qb_stc (a := .inl (max x y)) (by have e1 : qb_in x := h2.2.1; have e2 : qb_in y := h2.1; show qb_in (max x y); unfold qb_in at e1 e2 ⊢; omega) h2.2.2) hN
theorem qb_mmin {pc' : Nat} {idx : Nat} {x y : Int} (d : decode (qb_by M) pc = .ok (.invokestatic idx, 3)) (hpc : pc + 3 = pc') (hl : Cond.methodLink (qb_nm M).cls idx Lib.Math.min.name ∈ qb_wg) (hr : 1 ≤ qb_fr M ∧ (st.map qb_cat).sum + 13 ≤ qb_lo M ∧ cs ≤ qb_mc M ∧ ss ≤ qb_ms M) (kk : qb_R M cs ss sh pc' L (.inl (min x y) :: st) hp Q) : qb_R M cs ss sh pc L (.inl y :: .inl x :: st) hp Q := by
  subst hpc
  intro p l e s m args below meth cd D cI S n0 ad0 ad A H locs ls hC hW hS hL hst hN
  have h2 := qb_st2 hst
  refine va_mmin (x := Int32.ofInt x) (y := Int32.ofInt y) hC.1 hC.2.1 (hC.2.2.1.trans hL.1.symm) hC.2.2.2.2.2.2.1 (hC.2.2.2.2.2.2.2.1 _ hl) (hC.2.2.2.2.2.2.2.1 _ qb_mins) (hC.2.2.2.2.2.2.2.1 _ qb_mathi) (hC.2.2.2.2.2.2.2.1 _ qb_minc) hr.1 (by rw [qb_cats]; exact hr.2.1) hr.2.2.1 hr.2.2.2 d ?_
  have he : (if Int32.ofInt y < Int32.ofInt x then Int32.ofInt y else Int32.ofInt x) = Int32.ofInt (min x y) := by
    simp only [qb_ltI h2.1 h2.2.1, qb_ltI h2.2.1 h2.1]
    split
    · rw [show min x y = y by omega]
    · rw [show min x y = x by omega]
  rw [he]
  exact kk p l e s m args below meth cd D cI S n0 ad0 ad A H locs ls hC hW hS hL (qb_stc (a := .inl (min x y)) (by have e1 : qb_in x := h2.2.1; have e2 : qb_in y := h2.1; show qb_in (min x y); unfold qb_in at e1 e2 ⊢; omega) h2.2.2) hN
def qb_cpy (hp : qb_H) (a b : Nat) (sp dp n : Int) : qb_H := fun c => if c = b then (fun j => if dp ≤ j ∧ j < dp + n then hp a (sp + (j - dp)) else hp b j) else hp c
theorem qb_cpy_ne {hp : qb_H} {a b c : Nat} {sp dp n : Int} (h : c ≠ b) : qb_cpy hp a b sp dp n c = hp c := if_neg h
theorem qb_copy {pc' : Nat} {idx a b na nb : Nat} {sp dp n : Int} (d : decode (qb_by M) pc = .ok (.invokestatic idx, 3)) (hpc : pc + 3 = pc') (hl : Cond.methodLink (qb_nm M).cls idx arraycopyName ∈ qb_wg) (ha : sh[a]? = some (.inr na)) (hb : sh[b]? = some (.inr nb)) (h1 : 0 ≤ sp) (h2 : 0 ≤ dp) (h3 : 0 ≤ n) (h4 : sp + n ≤ na) (h5 : dp + n ≤ nb) (hr : 1 ≤ qb_fr M ∧ (st.map qb_cat).sum + (nativeFrameWords "java/lang/System" "arraycopy" 5 + 11) ≤ qb_lo M) (kk : qb_R M cs ss sh pc' L (st) (qb_cpy hp a b sp dp n) Q) : qb_R M cs ss sh pc L (.inl n :: .inl dp :: .inr (.inl b) :: .inl sp :: .inr (.inl a) :: st) hp Q := by
  subst hpc
  intro p l e s m args below meth cd D cI S n0 ad0 ad A H locs ls hC hW hS hL hst hN
  have g1 := qb_st2 hst
  have g2 := qb_st2 g1.2.2
  have g3 := qb_st1 g2.2.2
  have ng : ∀ z : Int, qb_in z → 0 ≤ z → ¬ Int32.ofInt z < 0 ∧ (((Int32.ofInt z).toNatClampNeg : Nat) : Int) = z := by
    intro z hz h0
    refine ⟨fun h => ?_, ?_⟩
    · rw [qb_0I, qb_ltI hz qb_in0] at h; omega
    · show (((Int32.ofInt z).toInt.toNat : Nat) : Int) = z
      rw [qb_toI hz]; omega
  have ksp := ng sp g2.2.1 h1
  have kdp := ng dp g1.2.1 h2
  have kn := ng n g1.1 h3
  refine va_copyi (a0 := ad a) (a := ad b) (sp := Int32.ofInt sp) (dp := Int32.ofInt dp) (n := Int32.ofInt n) (f := fun j => Int32.ofInt (hp a j)) (g := fun j => Int32.ofInt (hp b j)) (ty := .int) hC.1 hC.2.1 (hC.2.2.1.trans hL.1.symm) hC.2.2.2.2.2.2.1 (hC.2.2.2.2.2.2.2.1 _ hl) (hC.2.2.2.2.2.2.2.1 _ qb_acn) (hC.2.2.2.2.2.2.2.1 _ qb_acs) (hC.2.2.2.2.2.2.2.1 _ qb_sysi) hC.2.2.2.2.2.2.2.2.1 hW.1 hW.2.1 hS a b 0 0 (qb_ws_at ha) (qb_ws_at hb) rfl rfl rfl ksp.1 kdp.1 kn.1 (by omega) (by omega) (fun _ _ => rfl) hr.1 (by rw [qb_cats]; exact hr.2) d (fun H1 locs1 hP1 hD1 hS1 => ?_)
  have hlb : b < sh.length := (List.getElem?_eq_some_iff.mp hb).1
  have he : (qb_ws ad cI hp sh).set b (ad b, .inl (cI, nb, .inl (va_cpy (fun j => Int32.ofInt (hp a j)) (fun j => Int32.ofInt (hp b j)) (Int32.ofInt sp).toNatClampNeg (Int32.ofInt dp).toNatClampNeg (Int32.ofInt n).toNatClampNeg))) = qb_ws ad cI (qb_cpy hp a b sp dp n) sh := by
    apply List.ext_getElem?
    intro j
    simp only [qb_ws, List.getElem?_set, List.getElem?_mapIdx, List.length_mapIdx]
    by_cases ej : b = j
    · subst ej
      rw [if_pos rfl, if_pos hlb, hb]
      simp only [Option.map_some, qb_ce, Option.some.injEq, Prod.mk.injEq, true_and, Sum.inl.injEq]
      funext q
      simp only [va_cpy, qb_cpy, if_true]
      by_cases hq : (Int32.ofInt dp).toNatClampNeg ≤ q ∧ q < (Int32.ofInt dp).toNatClampNeg + (Int32.ofInt n).toNatClampNeg
      · rw [if_pos hq, if_pos (by omega)]
        congr 2
        omega
      · rw [if_neg hq, if_neg (by omega)]
    · rw [if_neg ej]
      have eh : qb_cpy hp a b sp dp n j = hp j := if_neg (Ne.symm ej)
      rcases hj : sh[j]? with _ | (⟨ci', sl'⟩ | n')
      · rfl
      · show some (qb_ce _ _ _ _ _) = some (qb_ce _ _ _ _ _)
        simp only [qb_ce, eh]
      · show some (qb_ce _ _ _ _ _) = some (qb_ce _ _ _ _ _)
        simp only [qb_ce, eh]
  rw [he] at hP1 hD1
  have hw1 := hW.2.2.2.1
  exact kk p l e s m args below meth cd D cI S n0 ad0 ad A H1 locs1 ls hC ⟨hP1, hD1, (fun c i => by
    unfold qb_cpy
    by_cases ec : c = b
    · rw [if_pos ec]
      show qb_in (if _ then _ else _)
      split
      · exact hW.2.2.1 _ _
      · exact hW.2.2.1 _ _
    · rw [if_neg ec]; exact hW.2.2.1 _ _), hW.2.2.2⟩ hS1 hL g3.2 ⟨hN.1, hN.2.1, hN.2.2.1, (if_neg (by omega)).trans hN.2.2.2.1, (if_neg (by omega)).trans hN.2.2.2.2.1, hN.2.2.2.2.2⟩
theorem qb_obj {pc' : Nat} {idx a : Nat} (d : decode (qb_by M) pc = .ok (.invokespecial idx, 3)) (hpc : pc + 3 = pc') (hl : Cond.methodLink (qb_nm M).cls idx Lib.objectInit ∈ qb_wg) (hr : 1 ≤ qb_fr M ∧ (st.map qb_cat).sum + 12 ≤ qb_lo M) (kk : qb_R M cs ss sh pc' L (st) hp Q) : qb_R M cs ss sh pc L (.inr (.inl a) :: st) hp Q := by
  subst hpc
  intro p l e s m args below meth cd D cI S n0 ad0 ad A H locs ls hC hW hS hL hst hN
  have h2 := qb_st1 hst
  refine W.objInit (a := ad a) (rest := st.map (qb_tv ad)) hC.1 hC.2.1 hC.2.2.2.2.2.2.1 (hC.2.2.2.2.2.2.2.1 _ hl) (hC.2.2.2.2.2.2.2.1 _ qb_obi) (hC.2.2.2.2.2.2.2.1 _ qb_obc) rfl (hL.1.trans hC.2.2.1.symm) rfl d hr.1 (by rw [qb_cats]; show 2 * 0 + (st.map qb_cat).sum + 12 ≤ qb_lo M; have := hr.2; omega) ?_
  exact kk p l e s m args below meth cd D cI S n0 ad0 ad A H locs ls hC hW hS hL h2.2 hN
theorem qb_iret {x : Int} (d : decode (qb_by M) pc = .ok (.ireturn, 1)) (hr : qb_rt M = some .int) (hc : cs ≤ qb_mc M ∧ ss ≤ qb_ms M) (hQ : Q (some (.inl x)) hp sh) : qb_R M cs ss sh pc L ([.inl x]) hp Q := by
  intro p l e s m args below meth cd D cI S n0 ad0 ad A H locs ls hC hW hS hL hst hN
  have h2 := qb_st1 hst
  refine W.widen hc.1 hc.2 ?_
  exact W.iret hC.1 hC.2.1 (hC.2.2.2.1.trans hr) (fun t ht _ => ⟨⟨some (.inl x), hp, sh, ad, rfl, hQ, fun v hv => by cases hv; exact h2.1, by rw [ht]; exact hW, hN⟩, hS.F ht⟩) hS.2.2 d hC.2.2.2.2.1
theorem qb_lret {x : Int} (d : decode (qb_by M) pc = .ok (.lreturn, 1)) (hr : qb_rt M = some .long) (hc : cs ≤ qb_mc M ∧ ss ≤ qb_ms M) (hQ : Q (some (.inr (.inr x))) hp sh) : qb_R M cs ss sh pc L ([.inr (.inr x)]) hp Q := by
  intro p l e s m args below meth cd D cI S n0 ad0 ad A H locs ls hC hW hS hL hst hN
  have h2 := qb_st1 hst
  refine W.widen hc.1 hc.2 ?_
  exact W.lret hC.1 hC.2.1 (hC.2.2.2.1.trans hr) (fun t ht _ => ⟨⟨some (.inr (.inr x)), hp, sh, ad, rfl, hQ, fun v hv => by cases hv; exact h2.1, by rw [ht]; exact hW, hN⟩, hS.F ht⟩) hS.2.2 d hC.2.2.2.2.1
theorem qb_zret {x : Int} (d : decode (qb_by M) pc = .ok (.ireturn, 1)) (hr : qb_rt M = some .boolean) (hx : x = 0 ∨ x = 1) (hc : cs ≤ qb_mc M ∧ ss ≤ qb_ms M) (hQ : Q (some (.inl x)) hp sh) : qb_R M cs ss sh pc L ([.inl x]) hp Q := by
  intro p l e s m args below meth cd D cI S n0 ad0 ad A H locs ls hC hW hS hL hst hN
  have h2 := qb_st1 hst
  refine W.widen hc.1 hc.2 ?_
  exact W.zret hC.1 hC.2.1 (hC.2.2.2.1.trans hr) (by rcases hx with rfl | rfl <;> rfl) (fun t ht _ => ⟨⟨some (.inl x), hp, sh, ad, rfl, hQ, fun v hv => by cases hv; exact h2.1, by rw [ht]; exact hW, hN⟩, hS.F ht⟩) hS.2.2 d hC.2.2.2.2.1
theorem qb_vret (d : decode (qb_by M) pc = .ok (.return_, 1)) (hr : qb_rt M = none) (hc : cs ≤ qb_mc M ∧ ss ≤ qb_ms M) (hQ : Q none hp sh) : qb_R M cs ss sh pc L ([]) hp Q := by
  intro p l e s m args below meth cd D cI S n0 ad0 ad A H locs ls hC hW hS hL hst hN
  refine W.widen hc.1 hc.2 ?_
  exact W.vret hC.1 hC.2.1 (hC.2.2.2.1.trans hr) (fun t ht _ => ⟨⟨none, hp, sh, ad, rfl, hQ, (fun v hv => by cases hv), (by rw [ht]; exact hW), hN⟩, hS.F ht⟩) hS.2.2 d hC.2.2.2.2.1
def qb_zero (hp : qb_H) (c : Nat) : qb_H := fun c' => if c' = c then (fun _ => 0) else hp c'
theorem qb_tv_ad {ad ad' : Nat → Nat} {n : Nat} {v : qb_V} (hv : qb_ok n v) (hE : ∀ k, (k < n ∨ 1000 ≤ k) → ad' k = ad k) : qb_tv ad' v = qb_tv ad v := by
  rcases v with x | x | x
  · rfl
  · exact congrArg Value.ref (hE x hv)
  · rfl
theorem qb_ok_up {n n' : Nat} {v : qb_V} (hv : qb_ok n v) (h : n ≤ n') : qb_ok n' v := by
  rcases v with x | x | x
  · exact hv
  · exact hv.imp (fun z => Nat.lt_of_lt_of_le z h) id
  · exact hv
theorem qb_map_ad {ad ad' : Nat → Nat} {n : Nat} {st : List qb_V} (hv : ∀ v ∈ st, qb_ok n v) (hE : ∀ k, (k < n ∨ 1000 ≤ k) → ad' k = ad k) : st.map (qb_tv ad') = st.map (qb_tv ad) := List.map_congr_left (fun v h => qb_tv_ad (hv v h) hE)
theorem qb_L_ad {ad ad' : Nat → Nat} {n n' nL : Nat} {ls : Array Slot} {L : List (Option qb_V)} (h : qb_L ad n nL ls L) (hE : ∀ k, (k < n ∨ 1000 ≤ k) → ad' k = ad k) (hn : n ≤ n') : qb_L ad' n' nL ls L := ⟨h.1, h.2.1, fun i v hi => ⟨qb_ok_up (h.2.2 i v hi).1 hn, by rw [qb_tv_ad (h.2.2 i v hi).1 hE]; exact (h.2.2 i v hi).2⟩⟩
theorem qb_wf_push {sh : qb_Sh} {d : (Nat × List (Option (Option Nat))) ⊕ Nat} (h : qb_wf sh) (hl : sh.length < 999) (hd : ∀ (ci : Nat) (sl : List (Option (Option Nat))), d = .inl (ci, sl) → ∀ (j c : Nat), sl[j]? ≠ some (some (some c))) : qb_wf (sh ++ [d]) := by
  refine ⟨by simp; omega, fun k ci sl hk j c hj => ?_⟩
  rcases Nat.lt_or_ge k sh.length with g | g
  · rw [List.getElem?_append_left g] at hk
    have := h.2 k ci sl hk j c hj
    simp; omega
  · rw [List.getElem?_append_right g] at hk
    obtain ⟨z, hz⟩ : ∃ z, k - sh.length = z := ⟨_, rfl⟩
    rw [hz] at hk
    rcases z with _ | z
    · simp only [List.getElem?_cons_zero, Option.some.injEq] at hk
      exact absurd hj (hd ci sl hk j c)
    · simp at hk
theorem qb_grow {D : va_G} {cI : ClassId} {ad ad' : Nat → Nat} {hp : qb_H} {sh : qb_Sh} {d : (Nat × List (Option (Option Nat))) ⊕ Nat} {S : qb_S} {n0 : Nat} {ad0 : Nat → Nat} {A : Nat → Prop} {H1 : Heap} (hin : ∀ c i, qb_in (hp c i)) (hw : qb_wf sh) (hl : sh.length < 999) (hd : ∀ (ci : Nat) (sl : List (Option (Option Nat))), d = .inl (ci, sl) → ∀ (j c : Nat), sl[j]? ≠ some (some (some c))) (hE : ∀ k, (k < sh.length ∨ 1000 ≤ k) → ad' k = ad k)
    (hP : va_P D vwCl (qb_ws ad cI hp sh ++ [qb_ce ad' cI (qb_zero hp sh.length) sh.length d]) H1) (hD : va_D A (qb_ws ad cI hp sh ++ [qb_ce ad' cI (qb_zero hp sh.length) sh.length d])) (hN : qb_N S n0 ad0 ad hp sh) :
    qb_Wd D cI ad' (qb_zero hp sh.length) (sh ++ [d]) A H1 ∧ qb_N S n0 ad0 ad' (qb_zero hp sh.length) (sh ++ [d]) := by
  have hz : ∀ k, k ≠ sh.length → qb_zero hp sh.length k = hp k := fun k hk => if_neg hk
  rw [← qb_ws_push hw hE hz] at hP hD
  refine ⟨⟨hP, hD, fun c i => ?_, qb_wf_push hw hl hd⟩, ?_⟩
  · unfold qb_zero
    split
    · exact qb_in0
    · exact hin c i
  · obtain ⟨h1, h2, h3, h4, h5, h6, h7⟩ := hN
    exact ⟨(hE _ (Or.inr (by omega))).trans h1, (hE _ (Or.inr (by omega))).trans h2, (hE _ (Or.inr (by omega))).trans h3, (hz _ (by omega)).trans h4, (hz _ (by omega)).trans h5, by simp; omega, fun k hk => (hE k (by omega)).trans (h7 k hk)⟩
theorem qb_new {pc' : Nat} {idx ci N : Nat} {C : String} {Tb : u_T} {sl : List (Option (Option Nat))} (d : decode (qb_by M) pc = .ok (.new idx, 3)) (hpc : pc + 3 = pc') (hc : vwCl[ci]? = some (C, Tb, N)) (hw : Cond.classLink (qb_nm M).cls idx C ∈ qb_wg ∧ Cond.instantiable C N ∈ qb_wg ∧ Cond.initialized C ∈ qb_wg) (hf : ∃ ty : Nat → FieldType, (∀ k, k < N → parseFieldDescriptor (Tb k).2.2.1 = some (ty k)) ∧ ∀ (ad : Nat → Nat) (j : Nat), j < N → defaultValue (ty j) = vp_V (qb_fs ad (fun _ => 0) sl) j) (hsl : ∀ (j c : Nat), sl[j]? ≠ some (some (some c))) (hcs : cs + 1 ≤ qb_mc M ∧ ss + N ≤ qb_ms M) (hlen : sh.length < 999)
    (kk : qb_R M (cs + 1) (ss + N) (sh ++ [.inl (ci, sl)]) pc' L (.inr (.inl sh.length) :: st) (qb_zero hp sh.length) Q) : qb_R M cs ss sh pc L (st) hp Q := by
  subst hpc
  intro p l e s m args below meth cd D cI S n0 ad0 ad A H locs ls hC hW hS hL hst hN
  obtain ⟨ty, hty, hdf⟩ := hf
  refine va_new (fs := qb_fs ad (fun _ => 0) sl) hC.1 hC.2.1 hC.2.2.2.2.2.2.2.1 (qb_cls ci _ hc).1 ty hty hC.2.2.2.2.2.2.1 (hC.2.2.2.2.2.2.2.1 _ hw.1) (hC.2.2.2.2.2.2.2.1 _ hw.2.1) (hC.2.2.2.2.2.2.2.1 _ hw.2.2) hC.2.2.2.2.2.2.2.2.1 hW.1 hW.2.1 hS hC.2.2.2.2.2.2.2.2.2.2.1 hc (hdf ad) hcs.1 hcs.2 d (fun q H1 hP1 hD1 hS1 => ?_)
  have hE : ∀ k, (k < sh.length ∨ 1000 ≤ k) → (fun k => if k = sh.length then q else ad k) k = ad k := fun k hk => if_neg (by omega)
  have he : (q, Sum.inr (ci, qb_fs ad (fun _ => 0) sl)) = qb_ce (fun k => if k = sh.length then q else ad k) cI (qb_zero hp sh.length) sh.length (.inl (ci, sl)) := by
    simp only [qb_ce, if_true, qb_zero]
    rw [qb_fs_ad (fun j c h => absurd h (hsl j c)) hE]
  rw [he] at hP1 hD1
  obtain ⟨g1, g2⟩ := qb_grow hW.2.2.1 hW.2.2.2 hlen (fun ci' sl' h => by cases h; exact hsl) hE hP1 hD1 hN
  have K := kk p l e s m args below meth cd D cI S n0 ad0 (fun k => if k = sh.length then q else ad k) A H1 locs ls hC g1 hS1 (qb_L_ad hL hE (by simp)) (qb_stc (a := .inr (.inl sh.length)) (Or.inl (by simp)) (fun v h => qb_ok_up (hst v h) (by simp))) g2
  rw [List.map_cons, qb_map_ad hst hE] at K
  simpa [qb_tv] using K
theorem qb_newa {pc' : Nat} {n : Nat} {x : Int} (d : decode (qb_by M) pc = .ok (.newarray .int, 2)) (hpc : pc + 2 = pc') (hx : x = (n : Int)) (hn : n ≤ 100000) (hcs : cs + 1 ≤ qb_mc M ∧ ss + n ≤ qb_ms M) (hlen : sh.length < 999)
    (kk : qb_R M (cs + 1) (ss + n) (sh ++ [.inr n]) pc' L (.inr (.inl sh.length) :: st) (qb_zero hp sh.length) Q) : qb_R M cs ss sh pc L (.inl x :: st) hp Q := by
  subst hpc
  intro p l e s m args below meth cd D cI S n0 ad0 ad A H locs ls hC hW hS hL hst hN
  have h2 := qb_st1 hst
  subst hx
  have hcl : (Int32.ofInt (n : Int)).toNatClampNeg = n := by
    show (Int32.ofInt (n : Int)).toInt.toNat = n
    rw [qb_toI h2.1]; omega
  refine va_newa (a0 := (n, .inl (fun _ => 0))) (ty := .int) (N' := n) (n := Int32.ofInt (n : Int)) hC.1 hC.2.1 (atype := .int) (hC.2.2.2.2.2.2.2.1 _ qb_aci) rfl hC.2.2.2.2.2.2.2.2.1 hW.1 hW.2.1 hS hC.2.2.2.2.2.2.2.2.2.2.1 (fun _ => rfl) (fun h => by rw [qb_0I, qb_ltI h2.1 qb_in0] at h; omega) hcl (by show n * 4 ≤ _; omega) hcs.1 hcs.2 d (fun q cA H1 hK1 hP1 hD1 hS1 => ?_)
  have ecA : cA = cI := by
    have k1 := (hK1.2 1 (cA, .int) rfl).2
    have k0 := (hK1.2 0 (cI, .int) rfl).2
    exact Option.some.inj (k1.symm.trans k0)
  subst ecA
  have hE : ∀ k, (k < sh.length ∨ 1000 ≤ k) → (fun k => if k = sh.length then q else ad k) k = ad k := fun k hk => if_neg (by have := hW.2.2.2.1; omega)
  have he : (q, Sum.inl (cA, n, Sum.inl (fun _ => 0))) = qb_ce (fun k => if k = sh.length then q else ad k) cA (qb_zero hp sh.length) sh.length (.inr n) := by
    simp only [qb_ce, if_true, qb_zero]
    rfl
  rw [he] at hP1 hD1
  obtain ⟨g1, g2⟩ := qb_grow hW.2.2.1 hW.2.2.2 hlen (fun ci' sl' h => by cases h) hE hP1 hD1 hN
  have K := kk p l e s m args below meth cd D cA S n0 ad0 (fun k => if k = sh.length then q else ad k) A H1 locs ls hC g1 hS1 (qb_L_ad hL hE (by simp)) (qb_stc (a := .inr (.inl sh.length)) (Or.inl (by simp)) (fun v h => qb_ok_up (h2.2 v h) (by simp))) g2
  rw [List.map_cons, qb_map_ad h2.2 hE] at K
  simpa [qb_tv] using K
theorem qb_putr {pc' : Nat} {idx ci k c b : Nat} {ty : FieldType} {sl : List (Option (Option Nat))} (d : decode (qb_by M) pc = .ok (.putfield idx, 3)) (hpc : pc + 3 = pc') (f : qb_FL (qb_nm M).cls idx ci k true ty) (hin : (qb_nm M).name = "<init>") (hdec : ∀ q : vw_C, vwCl[ci]? = some q → (q.2.1 k).1 = (qb_nm M).cls) (hty : ∀ a : Nat, narrow ty (.ref a) = .ref a ∧ fits ty (.ref a) = true) (hs : sh[c]? = some (.inl (ci, sl))) (hk : k < sl.length) (kk : qb_R M cs ss (sh.set c (.inl (ci, sl.set k (some (some b))))) pc' L (st) hp Q) : qb_R M cs ss sh pc L (.inr (.inl b) :: .inr (.inl c) :: st) hp Q := by
  subst hpc
  intro p l e s m args below meth cd D cI S n0 ad0 ad A H locs ls hC hW hS hL hst hN
  obtain ⟨C, Tb, N, hc, hkN, hl, hfin, htp⟩ := f
  have h2 := qb_st2 hst
  obtain ⟨ty0, hty0⟩ := (qb_cls ci _ hc).2.1
  have hcl : c < sh.length := (List.getElem?_eq_some_iff.mp hs).1
  refine va_putF (a := ad c) (v := .ref (ad b)) (ty := ty) hC.1 hC.2.1 hC.2.2.2.2.2.2.2.1 (qb_cls ci _ hc).1 ty0 hty0 (qb_cls ci _ hc).2.2 hC.2.2.2.2.2.2.1 hC.2.2.2.2.2.2.2.2.1 hW.1 hW.2.1 hS c (qb_ws_at hs) hc k hkN (hC.2.2.2.2.2.2.2.1 _ hl) (fun _ h => h) hfin (hC.2.2.2.2.2.1.trans hin) (hdec _ hc) htp (hty _).1 (hty _).2 (by simpa [qb_fs] using hk) d (fun H1 locs1 hP1 hD1 hS1 => ?_)
  rw [qb_ws_putR hs hk] at hP1 hD1
  refine kk p l e s m args below meth cd D cI S n0 ad0 ad A H1 locs1 ls hC ⟨hP1, hD1, hW.2.2.1, by simpa using hW.2.2.2.1, fun k' ci' sl' hk' j c' hj => ?_⟩ hS1 (by simpa using hL) (by simpa using h2.2.2) (by simpa [qb_N] using hN)
  rw [List.length_set]
  rw [List.getElem?_set] at hk'
  by_cases e1 : c = k'
  · subst e1
    rw [if_pos rfl, if_pos hcl] at hk'
    simp only [Option.some.injEq, Sum.inl.injEq, Prod.mk.injEq] at hk'
    obtain ⟨rfl, rfl⟩ := hk'
    rw [List.getElem?_set] at hj
    by_cases e2 : k = j
    · subst e2
      rw [if_pos rfl, if_pos hk] at hj
      simp only [Option.some.injEq] at hj
      subst hj
      exact h2.1
    · rw [if_neg e2] at hj
      exact hW.2.2.2.2 c ci sl hs j c' hj
  · rw [if_neg e1] at hk'
    exact hW.2.2.2.2 k' ci' sl' hk' j c' hj
end
