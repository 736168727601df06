/-! the constructors, walked once, by program (wip/whole/gen/cons.py) -/
def zH : List (Nat × Option (Int × Int)) → qb_H → qb_H
  | [], hp => hp
  | (c, none) :: r, hp => qb_zero (zH r hp) c
  | (c, some (i, v)) :: r, hp => qb_st (zH r hp) c i v
section
variable {M : qb_M} {cs ss cs' ss' : Nat} {sh sh' : qb_Sh} {pc pc' : Nat} {L : List (Option qb_V)} {st : List qb_V} {hp hp' : qb_H} {Q : Option qb_V → qb_H → qb_Sh → Prop}
theorem zw_newa {n c : Nat} {x : Int} (d : decode (qb_by M) pc = .ok (.newarray .int, 2)) (hpc : pc + 2 = pc') (hx : x = (n : Int)) (hn : n ≤ 100000) (h1 : cs + 1 = cs') (h2 : ss + n = ss') (hcs : cs' ≤ qb_mc M ∧ ss' ≤ qb_ms M) (hl : sh.length = c) (hlen : c < 999) (hs : sh ++ [.inr n] = sh') (hh : qb_zero hp c = hp') (kk : qb_R M cs' ss' sh' pc' L (.inr (.inl c) :: st) hp' Q) : qb_R M cs ss sh pc L (.inl x :: st) hp Q := by
  subst h1 h2 hl hs hh
  exact qb_newa d hpc hx hn hcs hlen kk
theorem zw_new {idx ci N c : Nat} {C : String} {Tb : u_T} {sl : List (Option (Option Nat))} {ty : Nat → FieldType} (d : decode (qb_by M) pc = .ok (.new idx, 3)) (hpc : pc + 3 = pc') (hc : vwCl[ci]? = some (C, Tb, N)) (hw : Cond.classLink (qb_nm M).cls idx C ∈ qb_wg ∧ Cond.instantiable C N ∈ qb_wg ∧ Cond.initialized C ∈ qb_wg) (hty : ∀ k, k < N → parseFieldDescriptor (Tb k).2.2.1 = some (ty k)) (hf : ∀ j, j < N → defaultValue (ty j) = vp_V (qb_fs (fun _ => 0) (fun _ => 0) sl) j) (hsl : (sl.all fun z => z == none || z == some none) = true) (h1 : cs + 1 = cs') (h2 : ss + N = ss') (hcs : cs' ≤ qb_mc M ∧ ss' ≤ qb_ms M) (hl : sh.length = c) (hlen : c < 999) (hs : sh ++ [.inl (ci, sl)] = sh') (hh : qb_zero hp c = hp') (kk : qb_R M cs' ss' sh' pc' L (.inr (.inl c) :: st) hp' Q) : qb_R M cs ss sh pc L (st) hp Q := by
  subst h1 h2 hl hs hh
  have hno : ∀ (j c : Nat), sl[j]? ≠ some (some (some c)) := fun j c h => by
    have := List.all_eq_true.mp hsl _ (List.mem_of_getElem? h)
    simp at this
  refine qb_new d hpc hc hw ⟨ty, hty, fun ad j hj => ?_⟩ hno hcs hlen kk
  rw [hf j hj]
  refine congrArg (fun z => vp_V z j) ?_
  apply List.ext_getElem?
  intro i
  simp only [qb_fs, List.getElem?_mapIdx]
  rcases h : sl[i]? with _ | (_ | (_ | c))
  · rfl
  · rfl
  · rfl
  · exact absurd h (hno i c)
theorem zw_putr {idx ci k c b : Nat} {ty : FieldType} {sl : List (Option (Option Nat))} {C : String} {Tb : u_T} {N : Nat} (d : decode (qb_by M) pc = .ok (.putfield idx, 3)) (hpc : pc + 3 = pc') (f : qb_FL (qb_nm M).cls idx ci k true ty) (hin : (qb_nm M).name = "<init>") (hc : vwCl[ci]? = some (C, Tb, N)) (hd : (Tb k).1 = (qb_nm M).cls) (hty : ∀ a : Nat, narrow ty (.ref a) = .ref a ∧ fits ty (.ref a) = true) (hs : sh[c]? = some (.inl (ci, sl))) (hk : k < sl.length) (hs' : sh.set c (.inl (ci, sl.set k (some (some b)))) = sh') (kk : qb_R M cs ss sh' pc' L (st) hp Q) : qb_R M cs ss sh pc L (.inr (.inl b) :: .inr (.inl c) :: st) hp Q := by
  subst hs'
  exact qb_putr d hpc f hin (fun q h => by rw [hc] at h; cases h; exact hd) hty hs hk kk
theorem zw_iast {c n : Nat} {i x : Int} (d : decode (qb_by M) pc = .ok (.iastore, 1)) (hpc : pc + 1 = pc') (hs : sh[c]? = some (.inr n)) (h0 : 0 ≤ i ∧ i < (n : Int)) (hh : qb_st hp c i x = hp') (kk : qb_R M cs ss sh pc' L (st) hp' Q) : qb_R M cs ss sh pc L (.inl x :: .inl i :: .inr (.inl c) :: st) hp Q := by
  subst hh
  exact qb_iast d hpc hs h0.1 h0.2 kk
end
def zs0 : qb_Sh := []
def zo0 : List (Nat × Option (Int × Int)) := []
def zs1 : qb_Sh := zs0 ++ [.inl (10, [some none, some none, some none, some none, some none, some none, some none, some none, some none, some none, some none, some none, some none])]
def zo1 : List (Nat × Option (Int × Int)) := (0, none) :: zo0
theorem z0_mL_law_0 {hp : qb_H} {Q : Option qb_V → qb_H → qb_Sh → Prop} (kk : qb_R mL_law 1 13 zs1 4 [some (.inr (.inl 1002)), none, none, none] [.inr (.inl 0), .inr (.inl 0)] (zH zo1 hp) Q) : qb_R mL_law 0 0 zs0 0 [some (.inr (.inl 1002)), none, none, none] [] (zH zo0 hp) Q := by
  refine zw_new (ci := 10) (c := 0) (ty := tyX10) (sl := [some none, some none, some none, some none, some none, some none, some none, some none, some none, some none, some none, some none, some none]) (sh' := zs1) (hp' := zH zo1 hp) (cs' := 1) (ss' := 13) dL_law_0 rfl rfl ⟨qn_L_7, qin_X10, qic_X10⟩ tyX10_ok (by decide +kernel) (by decide +kernel) rfl rfl (by decide +kernel) (by decide +kernel) (by decide) rfl rfl ?_
  refine qb_dup dL_law_3 rfl rfl ?_
  exact kk
def zs2 : qb_Sh := zs1 ++ [.inl (3, [some none, none])]
def zo2 : List (Nat × Option (Int × Int)) := (1, none) :: zo1
theorem z1_mX10_init_0 {hp : qb_H} {Q : Option qb_V → qb_H → qb_Sh → Prop} (kk : qb_R mX10_init 1 2 zs2 9 [some (.inr (.inl 0))] [.inr (.inl 1), .inr (.inl 1), .inr (.inl 0)] (zH zo2 hp) Q) : qb_R mX10_init 0 0 zs1 0 [some (.inr (.inl 0))] [] (zH zo1 hp) Q := by
  refine qb_aloadn dX10_init_0 rfl (i := 0) rfl rfl ?_
  refine qb_obj dX10_init_1 rfl qo_X10_1 (by decide) ?_
  refine qb_aloadn dX10_init_4 rfl (i := 0) rfl rfl ?_
  refine zw_new (ci := 3) (c := 1) (ty := tyX3) (sl := [some none, none]) (sh' := zs2) (hp' := zH zo2 hp) (cs' := 1) (ss' := 2) dX10_init_5 rfl rfl ⟨qn_X10_7, qin_X3, qic_X3⟩ tyX3_ok (by decide +kernel) (by decide +kernel) rfl rfl (by decide +kernel) (by decide +kernel) (by decide) rfl rfl ?_
  refine qb_dup dX10_init_8 rfl rfl ?_
  exact kk
def zs3 : qb_Sh := zs2 ++ [.inr 60]
def zo3 : List (Nat × Option (Int × Int)) := (2, none) :: zo2
def zs4 : qb_Sh := zs3.set 1 (.inl (3, [some (some 2), none]))
theorem z2_mX3_init_0 {hp : qb_H} {Q : Option qb_V → qb_H → qb_Sh → Prop} (kk : Q none (zH zo3 hp) zs4) : qb_R mX3_init 0 0 zs2 0 [some (.inr (.inl 1))] [] (zH zo2 hp) Q := by
  refine qb_aloadn dX3_init_0 rfl (i := 0) rfl rfl ?_
  refine qb_obj dX3_init_1 rfl qo_X3_3 (by decide) ?_
  refine qb_aloadn dX3_init_4 rfl (i := 0) rfl rfl ?_
  refine qb_bipush dX3_init_5 rfl (by decide) (by decide) ?_
  refine zw_newa (n := 60) (c := 2) (sh' := zs3) (hp' := zH zo3 hp) (cs' := 1) (ss' := 60) dX3_init_7 rfl rfl (by decide) rfl rfl (by decide +kernel) (by decide +kernel) (by decide) rfl rfl ?_
  refine zw_putr (ci := 3) (k := 0) (c := 1) (b := 2) (sl := [some none, none]) (sh' := zs4) dX3_init_9 rfl qf_X3_9 rfl rfl rfl (fun _ => ⟨rfl, rfl⟩) (by decide +kernel) (by decide) rfl ?_
  exact qb_vret dX3_init_12 rfl (by decide) kk
theorem z2_mX3_init {hp : qb_H} {Q : Option qb_V → qb_H → qb_Sh → Prop} (kk : Q none (zH zo3 hp) zs4) : qb_R mX3_init 0 0 zs2 0 [some (.inr (.inl 1))] [] (zH zo2 hp) Q := z2_mX3_init_0 kk
def zs5 : qb_Sh := zs4.set 0 (.inl (10, [some (some 1), some none, some none, some none, some none, some none, some none, some none, some none, some none, some none, some none, some none]))
def zs6 : qb_Sh := zs5 ++ [.inl (0, [some none, some none, some none, some none, some none, some none, none])]
def zo4 : List (Nat × Option (Int × Int)) := (3, none) :: zo3
theorem z1_mX10_init_1 {hp : qb_H} {Q : Option qb_V → qb_H → qb_Sh → Prop} (kk : qb_R mX10_init 3 69 zs6 20 [some (.inr (.inl 0))] [.inr (.inl 3), .inr (.inl 3), .inr (.inl 0)] (zH zo4 hp) Q) : qb_R mX10_init 1 2 zs2 9 [some (.inr (.inl 0))] [.inr (.inl 1), .inr (.inl 1), .inr (.inl 0)] (zH zo2 hp) Q := by
  refine qb_callI dX10_init_9 qe_mX10_init_mX3_init (as := []) (b := 1) rfl rfl rfl (by decide) (by decide) (z2_mX3_init (hp := hp) ?_)
  show qb_R mX10_init 2 62 zs4 12 [some (.inr (.inl 0))] [.inr (.inl 1), .inr (.inl 0)] (zH zo3 hp) Q
  refine zw_putr (ci := 10) (k := 0) (c := 0) (b := 1) (sl := [some none, some none, some none, some none, some none, some none, some none, some none, some none, some none, some none, some none, some none]) (sh' := zs5) dX10_init_12 rfl qf_X10_10 rfl rfl rfl (fun _ => ⟨rfl, rfl⟩) (by decide +kernel) (by decide) rfl ?_
  refine qb_aloadn dX10_init_15 rfl (i := 0) rfl rfl ?_
  refine zw_new (ci := 0) (c := 3) (ty := tyX0) (sl := [some none, some none, some none, some none, some none, some none, none]) (sh' := zs6) (hp' := zH zo4 hp) (cs' := 3) (ss' := 69) dX10_init_16 rfl rfl ⟨qn_X10_16, qin_X0, qic_X0⟩ tyX0_ok (by decide +kernel) (by decide +kernel) rfl rfl (by decide +kernel) (by decide +kernel) (by decide) rfl rfl ?_
  refine qb_dup dX10_init_19 rfl rfl ?_
  exact kk
def zs7 : qb_Sh := zs6 ++ [.inr 8]
def zo5 : List (Nat × Option (Int × Int)) := (4, none) :: zo4
def zs8 : qb_Sh := zs7.set 3 (.inl (0, [some (some 4), some none, some none, some none, some none, some none, none]))
def zs9 : qb_Sh := zs8 ++ [.inr 8]
def zo6 : List (Nat × Option (Int × Int)) := (5, none) :: zo5
def zs10 : qb_Sh := zs9.set 3 (.inl (0, [some (some 4), some (some 5), some none, some none, some none, some none, none]))
def zs11 : qb_Sh := zs10 ++ [.inr 120]
def zo7 : List (Nat × Option (Int × Int)) := (6, none) :: zo6
def zs12 : qb_Sh := zs11.set 3 (.inl (0, [some (some 4), some (some 5), some (some 6), some none, some none, some none, none]))
def zs13 : qb_Sh := zs12 ++ [.inr 120]
def zo8 : List (Nat × Option (Int × Int)) := (7, none) :: zo7
def zs14 : qb_Sh := zs13.set 3 (.inl (0, [some (some 4), some (some 5), some (some 6), some (some 7), some none, some none, none]))
def zs15 : qb_Sh := zs14 ++ [.inr 120]
def zo9 : List (Nat × Option (Int × Int)) := (8, none) :: zo8
def zs16 : qb_Sh := zs15.set 3 (.inl (0, [some (some 4), some (some 5), some (some 6), some (some 7), some (some 8), some none, none]))
theorem z3_mX0_init_0 {hp : qb_H} {Q : Option qb_V → qb_H → qb_Sh → Prop} (kk : qb_R mX0_init 5 376 zs16 47 [some (.inr (.inl 3))] [.inl 120, .inr (.inl 3)] (zH zo9 hp) Q) : qb_R mX0_init 0 0 zs6 0 [some (.inr (.inl 3))] [] (zH zo4 hp) Q := by
  refine qb_aloadn dX0_init_0 rfl (i := 0) rfl rfl ?_
  refine qb_obj dX0_init_1 rfl qo_X0_3 (by decide) ?_
  refine qb_aloadn dX0_init_4 rfl (i := 0) rfl rfl ?_
  refine qb_bipush dX0_init_5 rfl (by decide) (by decide) ?_
  refine zw_newa (n := 8) (c := 4) (sh' := zs7) (hp' := zH zo5 hp) (cs' := 1) (ss' := 8) dX0_init_7 rfl rfl (by decide) rfl rfl (by decide +kernel) (by decide +kernel) (by decide) rfl rfl ?_
  refine zw_putr (ci := 0) (k := 0) (c := 3) (b := 4) (sl := [some none, some none, some none, some none, some none, some none, none]) (sh' := zs8) dX0_init_9 rfl qf_X0_9 rfl rfl rfl (fun _ => ⟨rfl, rfl⟩) (by decide +kernel) (by decide) rfl ?_
  refine qb_aloadn dX0_init_12 rfl (i := 0) rfl rfl ?_
  refine qb_bipush dX0_init_13 rfl (by decide) (by decide) ?_
  refine zw_newa (n := 8) (c := 5) (sh' := zs9) (hp' := zH zo6 hp) (cs' := 2) (ss' := 16) dX0_init_15 rfl rfl (by decide) rfl rfl (by decide +kernel) (by decide +kernel) (by decide) rfl rfl ?_
  refine zw_putr (ci := 0) (k := 1) (c := 3) (b := 5) (sl := [some (some 4), some none, some none, some none, some none, some none, none]) (sh' := zs10) dX0_init_17 rfl qf_X0_15 rfl rfl rfl (fun _ => ⟨rfl, rfl⟩) (by decide +kernel) (by decide) rfl ?_
  refine qb_aloadn dX0_init_20 rfl (i := 0) rfl rfl ?_
  refine qb_bipush dX0_init_21 rfl (by decide) (by decide) ?_
  refine zw_newa (n := 120) (c := 6) (sh' := zs11) (hp' := zH zo7 hp) (cs' := 3) (ss' := 136) dX0_init_23 rfl rfl (by decide) rfl rfl (by decide +kernel) (by decide +kernel) (by decide) rfl rfl ?_
  refine zw_putr (ci := 0) (k := 2) (c := 3) (b := 6) (sl := [some (some 4), some (some 5), some none, some none, some none, some none, none]) (sh' := zs12) dX0_init_25 rfl qf_X0_18 rfl rfl rfl (fun _ => ⟨rfl, rfl⟩) (by decide +kernel) (by decide) rfl ?_
  refine qb_aloadn dX0_init_28 rfl (i := 0) rfl rfl ?_
  refine qb_bipush dX0_init_29 rfl (by decide) (by decide) ?_
  refine zw_newa (n := 120) (c := 7) (sh' := zs13) (hp' := zH zo8 hp) (cs' := 4) (ss' := 256) dX0_init_31 rfl rfl (by decide) rfl rfl (by decide +kernel) (by decide +kernel) (by decide) rfl rfl ?_
  refine zw_putr (ci := 0) (k := 3) (c := 3) (b := 7) (sl := [some (some 4), some (some 5), some (some 6), some none, some none, some none, none]) (sh' := zs14) dX0_init_33 rfl qf_X0_21 rfl rfl rfl (fun _ => ⟨rfl, rfl⟩) (by decide +kernel) (by decide) rfl ?_
  refine qb_aloadn dX0_init_36 rfl (i := 0) rfl rfl ?_
  refine qb_bipush dX0_init_37 rfl (by decide) (by decide) ?_
  refine zw_newa (n := 120) (c := 8) (sh' := zs15) (hp' := zH zo9 hp) (cs' := 5) (ss' := 376) dX0_init_39 rfl rfl (by decide) rfl rfl (by decide +kernel) (by decide +kernel) (by decide) rfl rfl ?_
  refine zw_putr (ci := 0) (k := 4) (c := 3) (b := 8) (sl := [some (some 4), some (some 5), some (some 6), some (some 7), some none, some none, none]) (sh' := zs16) dX0_init_41 rfl qf_X0_24 rfl rfl rfl (fun _ => ⟨rfl, rfl⟩) (by decide +kernel) (by decide) rfl ?_
  refine qb_aloadn dX0_init_44 rfl (i := 0) rfl rfl ?_
  refine qb_bipush dX0_init_45 rfl (by decide) (by decide) ?_
  exact kk
def zs17 : qb_Sh := zs16 ++ [.inr 120]
def zo10 : List (Nat × Option (Int × Int)) := (9, none) :: zo9
def zs18 : qb_Sh := zs17.set 3 (.inl (0, [some (some 4), some (some 5), some (some 6), some (some 7), some (some 8), some (some 9), none]))
theorem z3_mX0_init_1 {hp : qb_H} {Q : Option qb_V → qb_H → qb_Sh → Prop} (kk : Q none (zH zo10 hp) zs18) : qb_R mX0_init 5 376 zs16 47 [some (.inr (.inl 3))] [.inl 120, .inr (.inl 3)] (zH zo9 hp) Q := by
  refine zw_newa (n := 120) (c := 9) (sh' := zs17) (hp' := zH zo10 hp) (cs' := 6) (ss' := 496) dX0_init_47 rfl rfl (by decide) rfl rfl (by decide +kernel) (by decide +kernel) (by decide) rfl rfl ?_
  refine zw_putr (ci := 0) (k := 5) (c := 3) (b := 9) (sl := [some (some 4), some (some 5), some (some 6), some (some 7), some (some 8), some none, none]) (sh' := zs18) dX0_init_49 rfl qf_X0_27 rfl rfl rfl (fun _ => ⟨rfl, rfl⟩) (by decide +kernel) (by decide) rfl ?_
  exact qb_vret dX0_init_52 rfl (by decide) kk
theorem z3_mX0_init {hp : qb_H} {Q : Option qb_V → qb_H → qb_Sh → Prop} (kk : Q none (zH zo10 hp) zs18) : qb_R mX0_init 0 0 zs6 0 [some (.inr (.inl 3))] [] (zH zo4 hp) Q := z3_mX0_init_0 (z3_mX0_init_1 kk)
def zs19 : qb_Sh := zs18.set 0 (.inl (10, [some (some 1), some (some 3), some none, some none, some none, some none, some none, some none, some none, some none, some none, some none, some none]))
def zs20 : qb_Sh := zs19 ++ [.inr 7]
def zo11 : List (Nat × Option (Int × Int)) := (10, none) :: zo10
def zo12 : List (Nat × Option (Int × Int)) := (10, some (0, 24)) :: zo11
def zo13 : List (Nat × Option (Int × Int)) := (10, some (1, 800)) :: zo12
def zo14 : List (Nat × Option (Int × Int)) := (10, some (2, 40)) :: zo13
def zo15 : List (Nat × Option (Int × Int)) := (10, some (3, 10)) :: zo14
theorem z1_mX10_init_2 {hp : qb_H} {Q : Option qb_V → qb_H → qb_Sh → Prop} (kk : qb_R mX10_init 10 572 zs20 54 [some (.inr (.inl 0))] [.inl 4, .inr (.inl 10), .inr (.inl 10), .inr (.inl 0)] (zH zo15 hp) Q) : qb_R mX10_init 3 69 zs6 20 [some (.inr (.inl 0))] [.inr (.inl 3), .inr (.inl 3), .inr (.inl 0)] (zH zo4 hp) Q := by
  refine qb_callI dX10_init_20 qe_mX10_init_mX0_init (as := []) (b := 3) rfl rfl rfl (by decide) (by decide) (z3_mX0_init (hp := hp) ?_)
  show qb_R mX10_init 9 565 zs18 23 [some (.inr (.inl 0))] [.inr (.inl 3), .inr (.inl 0)] (zH zo10 hp) Q
  refine zw_putr (ci := 10) (k := 1) (c := 0) (b := 3) (sl := [some (some 1), some none, some none, some none, some none, some none, some none, some none, some none, some none, some none, some none, some none]) (sh' := zs19) dX10_init_23 rfl qf_X10_19 rfl rfl rfl (fun _ => ⟨rfl, rfl⟩) (by decide +kernel) (by decide) rfl ?_
  refine qb_aloadn dX10_init_26 rfl (i := 0) rfl rfl ?_
  refine qb_bipush dX10_init_27 rfl (by decide) (by decide) ?_
  refine zw_newa (n := 7) (c := 10) (sh' := zs20) (hp' := zH zo11 hp) (cs' := 10) (ss' := 572) dX10_init_29 rfl rfl (by decide) rfl rfl (by decide +kernel) (by decide +kernel) (by decide) rfl rfl ?_
  refine qb_dup dX10_init_31 rfl rfl ?_
  refine qb_iconst dX10_init_32 rfl (by decide) ?_
  refine qb_bipush dX10_init_33 rfl (by decide) (by decide) ?_
  refine zw_iast (c := 10) (n := 7) (hp' := zH zo12 hp) dX10_init_35 rfl (by decide +kernel) (by decide) rfl ?_
  refine qb_dup dX10_init_36 rfl rfl ?_
  refine qb_iconst dX10_init_37 rfl (by decide) ?_
  refine qb_sipush dX10_init_38 rfl (by decide) (by decide) ?_
  refine zw_iast (c := 10) (n := 7) (hp' := zH zo13 hp) dX10_init_41 rfl (by decide +kernel) (by decide) rfl ?_
  refine qb_dup dX10_init_42 rfl rfl ?_
  refine qb_iconst dX10_init_43 rfl (by decide) ?_
  refine qb_bipush dX10_init_44 rfl (by decide) (by decide) ?_
  refine zw_iast (c := 10) (n := 7) (hp' := zH zo14 hp) dX10_init_46 rfl (by decide +kernel) (by decide) rfl ?_
  refine qb_dup dX10_init_47 rfl rfl ?_
  refine qb_iconst dX10_init_48 rfl (by decide) ?_
  refine qb_bipush dX10_init_49 rfl (by decide) (by decide) ?_
  refine zw_iast (c := 10) (n := 7) (hp' := zH zo15 hp) dX10_init_51 rfl (by decide +kernel) (by decide) rfl ?_
  refine qb_dup dX10_init_52 rfl rfl ?_
  refine qb_iconst dX10_init_53 rfl (by decide) ?_
  exact kk
def zo16 : List (Nat × Option (Int × Int)) := (10, some (4, 1000)) :: zo15
def zo17 : List (Nat × Option (Int × Int)) := (10, some (5, 5)) :: zo16
def zo18 : List (Nat × Option (Int × Int)) := (10, some (6, 4)) :: zo17
def zs21 : qb_Sh := zs20.set 0 (.inl (10, [some (some 1), some (some 3), some (some 10), some none, some none, some none, some none, some none, some none, some none, some none, some none, some none]))
def zs22 : qb_Sh := zs21 ++ [.inl (7, [some none, some none, some none, some none, some none, some none, some none, some none, some none, some none, some none, some none, some none, none])]
def zo19 : List (Nat × Option (Int × Int)) := (11, none) :: zo18
theorem z1_mX10_init_3 {hp : qb_H} {Q : Option qb_V → qb_H → qb_Sh → Prop} (kk : qb_R mX10_init 11 586 zs22 75 [some (.inr (.inl 0))] [.inr (.inl 11), .inr (.inl 11), .inr (.inl 0)] (zH zo19 hp) Q) : qb_R mX10_init 10 572 zs20 54 [some (.inr (.inl 0))] [.inl 4, .inr (.inl 10), .inr (.inl 10), .inr (.inl 0)] (zH zo15 hp) Q := by
  refine qb_sipush dX10_init_54 rfl (by decide) (by decide) ?_
  refine zw_iast (c := 10) (n := 7) (hp' := zH zo16 hp) dX10_init_57 rfl (by decide +kernel) (by decide) rfl ?_
  refine qb_dup dX10_init_58 rfl rfl ?_
  refine qb_iconst dX10_init_59 rfl (by decide) ?_
  refine qb_iconst dX10_init_60 rfl (by decide) ?_
  refine zw_iast (c := 10) (n := 7) (hp' := zH zo17 hp) dX10_init_61 rfl (by decide +kernel) (by decide) rfl ?_
  refine qb_dup dX10_init_62 rfl rfl ?_
  refine qb_bipush dX10_init_63 rfl (by decide) (by decide) ?_
  refine qb_iconst dX10_init_65 rfl (by decide) ?_
  refine zw_iast (c := 10) (n := 7) (hp' := zH zo18 hp) dX10_init_66 rfl (by decide +kernel) (by decide) rfl ?_
  refine zw_putr (ci := 10) (k := 2) (c := 0) (b := 10) (sl := [some (some 1), some (some 3), some none, some none, some none, some none, some none, some none, some none, some none, some none, some none, some none]) (sh' := zs21) dX10_init_67 rfl qf_X10_23 rfl rfl rfl (fun _ => ⟨rfl, rfl⟩) (by decide +kernel) (by decide) rfl ?_
  refine qb_aloadn dX10_init_70 rfl (i := 0) rfl rfl ?_
  refine zw_new (ci := 7) (c := 11) (ty := tyX7) (sl := [some none, some none, some none, some none, some none, some none, some none, some none, some none, some none, some none, some none, some none, none]) (sh' := zs22) (hp' := zH zo19 hp) (cs' := 11) (ss' := 586) dX10_init_71 rfl rfl ⟨qn_X10_27, qin_X7, qic_X7⟩ tyX7_ok (by decide +kernel) (by decide +kernel) rfl rfl (by decide +kernel) (by decide +kernel) (by decide) rfl rfl ?_
  refine qb_dup dX10_init_74 rfl rfl ?_
  exact kk
def zs23 : qb_Sh := zs22 ++ [.inr 30]
def zo20 : List (Nat × Option (Int × Int)) := (12, none) :: zo19
def zs24 : qb_Sh := zs23.set 11 (.inl (7, [some (some 12), some none, some none, some none, some none, some none, some none, some none, some none, some none, some none, some none, some none, none]))
def zs25 : qb_Sh := zs24 ++ [.inr 30]
def zo21 : List (Nat × Option (Int × Int)) := (13, none) :: zo20
def zs26 : qb_Sh := zs25.set 11 (.inl (7, [some (some 12), some (some 13), some none, some none, some none, some none, some none, some none, some none, some none, some none, some none, some none, none]))
def zs27 : qb_Sh := zs26 ++ [.inr 30]
def zo22 : List (Nat × Option (Int × Int)) := (14, none) :: zo21
def zs28 : qb_Sh := zs27.set 11 (.inl (7, [some (some 12), some (some 13), some (some 14), some none, some none, some none, some none, some none, some none, some none, some none, some none, some none, none]))
def zs29 : qb_Sh := zs28 ++ [.inr 30]
def zo23 : List (Nat × Option (Int × Int)) := (15, none) :: zo22
def zs30 : qb_Sh := zs29.set 11 (.inl (7, [some (some 12), some (some 13), some (some 14), some (some 15), some none, some none, some none, some none, some none, some none, some none, some none, some none, none]))
def zs31 : qb_Sh := zs30 ++ [.inr 30]
def zo24 : List (Nat × Option (Int × Int)) := (16, none) :: zo23
def zs32 : qb_Sh := zs31.set 11 (.inl (7, [some (some 12), some (some 13), some (some 14), some (some 15), some (some 16), some none, some none, some none, some none, some none, some none, some none, some none, none]))
theorem z4_mX7_init_0 {hp : qb_H} {Q : Option qb_V → qb_H → qb_Sh → Prop} (kk : qb_R mX7_init 5 150 zs32 47 [some (.inr (.inl 11))] [.inl 30, .inr (.inl 11)] (zH zo24 hp) Q) : qb_R mX7_init 0 0 zs22 0 [some (.inr (.inl 11))] [] (zH zo19 hp) Q := by
  refine qb_aloadn dX7_init_0 rfl (i := 0) rfl rfl ?_
  refine qb_obj dX7_init_1 rfl qo_X7_3 (by decide) ?_
  refine qb_aloadn dX7_init_4 rfl (i := 0) rfl rfl ?_
  refine qb_bipush dX7_init_5 rfl (by decide) (by decide) ?_
  refine zw_newa (n := 30) (c := 12) (sh' := zs23) (hp' := zH zo20 hp) (cs' := 1) (ss' := 30) dX7_init_7 rfl rfl (by decide) rfl rfl (by decide +kernel) (by decide +kernel) (by decide) rfl rfl ?_
  refine zw_putr (ci := 7) (k := 0) (c := 11) (b := 12) (sl := [some none, some none, some none, some none, some none, some none, some none, some none, some none, some none, some none, some none, some none, none]) (sh' := zs24) dX7_init_9 rfl qf_X7_9 rfl rfl rfl (fun _ => ⟨rfl, rfl⟩) (by decide +kernel) (by decide) rfl ?_
  refine qb_aloadn dX7_init_12 rfl (i := 0) rfl rfl ?_
  refine qb_bipush dX7_init_13 rfl (by decide) (by decide) ?_
  refine zw_newa (n := 30) (c := 13) (sh' := zs25) (hp' := zH zo21 hp) (cs' := 2) (ss' := 60) dX7_init_15 rfl rfl (by decide) rfl rfl (by decide +kernel) (by decide +kernel) (by decide) rfl rfl ?_
  refine zw_putr (ci := 7) (k := 1) (c := 11) (b := 13) (sl := [some (some 12), some none, some none, some none, some none, some none, some none, some none, some none, some none, some none, some none, some none, none]) (sh' := zs26) dX7_init_17 rfl qf_X7_15 rfl rfl rfl (fun _ => ⟨rfl, rfl⟩) (by decide +kernel) (by decide) rfl ?_
  refine qb_aloadn dX7_init_20 rfl (i := 0) rfl rfl ?_
  refine qb_bipush dX7_init_21 rfl (by decide) (by decide) ?_
  refine zw_newa (n := 30) (c := 14) (sh' := zs27) (hp' := zH zo22 hp) (cs' := 3) (ss' := 90) dX7_init_23 rfl rfl (by decide) rfl rfl (by decide +kernel) (by decide +kernel) (by decide) rfl rfl ?_
  refine zw_putr (ci := 7) (k := 2) (c := 11) (b := 14) (sl := [some (some 12), some (some 13), some none, some none, some none, some none, some none, some none, some none, some none, some none, some none, some none, none]) (sh' := zs28) dX7_init_25 rfl qf_X7_18 rfl rfl rfl (fun _ => ⟨rfl, rfl⟩) (by decide +kernel) (by decide) rfl ?_
  refine qb_aloadn dX7_init_28 rfl (i := 0) rfl rfl ?_
  refine qb_bipush dX7_init_29 rfl (by decide) (by decide) ?_
  refine zw_newa (n := 30) (c := 15) (sh' := zs29) (hp' := zH zo23 hp) (cs' := 4) (ss' := 120) dX7_init_31 rfl rfl (by decide) rfl rfl (by decide +kernel) (by decide +kernel) (by decide) rfl rfl ?_
  refine zw_putr (ci := 7) (k := 3) (c := 11) (b := 15) (sl := [some (some 12), some (some 13), some (some 14), some none, some none, some none, some none, some none, some none, some none, some none, some none, some none, none]) (sh' := zs30) dX7_init_33 rfl qf_X7_21 rfl rfl rfl (fun _ => ⟨rfl, rfl⟩) (by decide +kernel) (by decide) rfl ?_
  refine qb_aloadn dX7_init_36 rfl (i := 0) rfl rfl ?_
  refine qb_bipush dX7_init_37 rfl (by decide) (by decide) ?_
  refine zw_newa (n := 30) (c := 16) (sh' := zs31) (hp' := zH zo24 hp) (cs' := 5) (ss' := 150) dX7_init_39 rfl rfl (by decide) rfl rfl (by decide +kernel) (by decide +kernel) (by decide) rfl rfl ?_
  refine zw_putr (ci := 7) (k := 4) (c := 11) (b := 16) (sl := [some (some 12), some (some 13), some (some 14), some (some 15), some none, some none, some none, some none, some none, some none, some none, some none, some none, none]) (sh' := zs32) dX7_init_41 rfl qf_X7_24 rfl rfl rfl (fun _ => ⟨rfl, rfl⟩) (by decide +kernel) (by decide) rfl ?_
  refine qb_aloadn dX7_init_44 rfl (i := 0) rfl rfl ?_
  refine qb_bipush dX7_init_45 rfl (by decide) (by decide) ?_
  exact kk
def zs33 : qb_Sh := zs32 ++ [.inr 30]
def zo25 : List (Nat × Option (Int × Int)) := (17, none) :: zo24
def zs34 : qb_Sh := zs33.set 11 (.inl (7, [some (some 12), some (some 13), some (some 14), some (some 15), some (some 16), some (some 17), some none, some none, some none, some none, some none, some none, some none, none]))
def zs35 : qb_Sh := zs34 ++ [.inr 30]
def zo26 : List (Nat × Option (Int × Int)) := (18, none) :: zo25
def zs36 : qb_Sh := zs35.set 11 (.inl (7, [some (some 12), some (some 13), some (some 14), some (some 15), some (some 16), some (some 17), some (some 18), some none, some none, some none, some none, some none, some none, none]))
def zs37 : qb_Sh := zs36 ++ [.inr 30]
def zo27 : List (Nat × Option (Int × Int)) := (19, none) :: zo26
def zs38 : qb_Sh := zs37.set 11 (.inl (7, [some (some 12), some (some 13), some (some 14), some (some 15), some (some 16), some (some 17), some (some 18), some (some 19), some none, some none, some none, some none, some none, none]))
def zs39 : qb_Sh := zs38 ++ [.inr 30]
def zo28 : List (Nat × Option (Int × Int)) := (20, none) :: zo27
def zs40 : qb_Sh := zs39.set 11 (.inl (7, [some (some 12), some (some 13), some (some 14), some (some 15), some (some 16), some (some 17), some (some 18), some (some 19), some (some 20), some none, some none, some none, some none, none]))
def zs41 : qb_Sh := zs40 ++ [.inr 4]
def zo29 : List (Nat × Option (Int × Int)) := (21, none) :: zo28
def zo30 : List (Nat × Option (Int × Int)) := (21, some (0, 1)) :: zo29
theorem z4_mX7_init_1 {hp : qb_H} {Q : Option qb_V → qb_H → qb_Sh → Prop} (kk : qb_R mX7_init 10 274 zs41 87 [some (.inr (.inl 11))] [.inl 1, .inl 1, .inr (.inl 21), .inr (.inl 21), .inr (.inl 11)] (zH zo30 hp) Q) : qb_R mX7_init 5 150 zs32 47 [some (.inr (.inl 11))] [.inl 30, .inr (.inl 11)] (zH zo24 hp) Q := by
  refine zw_newa (n := 30) (c := 17) (sh' := zs33) (hp' := zH zo25 hp) (cs' := 6) (ss' := 180) dX7_init_47 rfl rfl (by decide) rfl rfl (by decide +kernel) (by decide +kernel) (by decide) rfl rfl ?_
  refine zw_putr (ci := 7) (k := 5) (c := 11) (b := 17) (sl := [some (some 12), some (some 13), some (some 14), some (some 15), some (some 16), some none, some none, some none, some none, some none, some none, some none, some none, none]) (sh' := zs34) dX7_init_49 rfl qf_X7_27 rfl rfl rfl (fun _ => ⟨rfl, rfl⟩) (by decide +kernel) (by decide) rfl ?_
  refine qb_aloadn dX7_init_52 rfl (i := 0) rfl rfl ?_
  refine qb_bipush dX7_init_53 rfl (by decide) (by decide) ?_
  refine zw_newa (n := 30) (c := 18) (sh' := zs35) (hp' := zH zo26 hp) (cs' := 7) (ss' := 210) dX7_init_55 rfl rfl (by decide) rfl rfl (by decide +kernel) (by decide +kernel) (by decide) rfl rfl ?_
  refine zw_putr (ci := 7) (k := 6) (c := 11) (b := 18) (sl := [some (some 12), some (some 13), some (some 14), some (some 15), some (some 16), some (some 17), some none, some none, some none, some none, some none, some none, some none, none]) (sh' := zs36) dX7_init_57 rfl qf_X7_30 rfl rfl rfl (fun _ => ⟨rfl, rfl⟩) (by decide +kernel) (by decide) rfl ?_
  refine qb_aloadn dX7_init_60 rfl (i := 0) rfl rfl ?_
  refine qb_bipush dX7_init_61 rfl (by decide) (by decide) ?_
  refine zw_newa (n := 30) (c := 19) (sh' := zs37) (hp' := zH zo27 hp) (cs' := 8) (ss' := 240) dX7_init_63 rfl rfl (by decide) rfl rfl (by decide +kernel) (by decide +kernel) (by decide) rfl rfl ?_
  refine zw_putr (ci := 7) (k := 7) (c := 11) (b := 19) (sl := [some (some 12), some (some 13), some (some 14), some (some 15), some (some 16), some (some 17), some (some 18), some none, some none, some none, some none, some none, some none, none]) (sh' := zs38) dX7_init_65 rfl qf_X7_33 rfl rfl rfl (fun _ => ⟨rfl, rfl⟩) (by decide +kernel) (by decide) rfl ?_
  refine qb_aloadn dX7_init_68 rfl (i := 0) rfl rfl ?_
  refine qb_bipush dX7_init_69 rfl (by decide) (by decide) ?_
  refine zw_newa (n := 30) (c := 20) (sh' := zs39) (hp' := zH zo28 hp) (cs' := 9) (ss' := 270) dX7_init_71 rfl rfl (by decide) rfl rfl (by decide +kernel) (by decide +kernel) (by decide) rfl rfl ?_
  refine zw_putr (ci := 7) (k := 8) (c := 11) (b := 20) (sl := [some (some 12), some (some 13), some (some 14), some (some 15), some (some 16), some (some 17), some (some 18), some (some 19), some none, some none, some none, some none, some none, none]) (sh' := zs40) dX7_init_73 rfl qf_X7_36 rfl rfl rfl (fun _ => ⟨rfl, rfl⟩) (by decide +kernel) (by decide) rfl ?_
  refine qb_aloadn dX7_init_76 rfl (i := 0) rfl rfl ?_
  refine qb_iconst dX7_init_77 rfl (by decide) ?_
  refine zw_newa (n := 4) (c := 21) (sh' := zs41) (hp' := zH zo29 hp) (cs' := 10) (ss' := 274) dX7_init_78 rfl rfl (by decide) rfl rfl (by decide +kernel) (by decide +kernel) (by decide) rfl rfl ?_
  refine qb_dup dX7_init_80 rfl rfl ?_
  refine qb_iconst dX7_init_81 rfl (by decide) ?_
  refine qb_iconst dX7_init_82 rfl (by decide) ?_
  refine zw_iast (c := 21) (n := 4) (hp' := zH zo30 hp) dX7_init_83 rfl (by decide +kernel) (by decide) rfl ?_
  refine qb_dup dX7_init_84 rfl rfl ?_
  refine qb_iconst dX7_init_85 rfl (by decide) ?_
  refine qb_iconst dX7_init_86 rfl (by decide) ?_
  exact kk
def zo31 : List (Nat × Option (Int × Int)) := (21, some (1, 1)) :: zo30
def zo32 : List (Nat × Option (Int × Int)) := (21, some (2, 1)) :: zo31
def zo33 : List (Nat × Option (Int × Int)) := (21, some (3, 1)) :: zo32
def zs42 : qb_Sh := zs41.set 11 (.inl (7, [some (some 12), some (some 13), some (some 14), some (some 15), some (some 16), some (some 17), some (some 18), some (some 19), some (some 20), some (some 21), some none, some none, some none, none]))
def zs43 : qb_Sh := zs42 ++ [.inr 4]
def zo34 : List (Nat × Option (Int × Int)) := (22, none) :: zo33
def zo35 : List (Nat × Option (Int × Int)) := (22, some (0, 500)) :: zo34
def zo36 : List (Nat × Option (Int × Int)) := (22, some (1, 500)) :: zo35
theorem z4_mX7_init_2 {hp : qb_H} {Q : Option qb_V → qb_H → qb_Sh → Prop} (kk : qb_R mX7_init 11 278 zs43 120 [some (.inr (.inl 11))] [.inl 500, .inl 2, .inr (.inl 22), .inr (.inl 22), .inr (.inl 11)] (zH zo36 hp) Q) : qb_R mX7_init 10 274 zs41 87 [some (.inr (.inl 11))] [.inl 1, .inl 1, .inr (.inl 21), .inr (.inl 21), .inr (.inl 11)] (zH zo30 hp) Q := by
  refine zw_iast (c := 21) (n := 4) (hp' := zH zo31 hp) dX7_init_87 rfl (by decide +kernel) (by decide) rfl ?_
  refine qb_dup dX7_init_88 rfl rfl ?_
  refine qb_iconst dX7_init_89 rfl (by decide) ?_
  refine qb_iconst dX7_init_90 rfl (by decide) ?_
  refine zw_iast (c := 21) (n := 4) (hp' := zH zo32 hp) dX7_init_91 rfl (by decide +kernel) (by decide) rfl ?_
  refine qb_dup dX7_init_92 rfl rfl ?_
  refine qb_iconst dX7_init_93 rfl (by decide) ?_
  refine qb_iconst dX7_init_94 rfl (by decide) ?_
  refine zw_iast (c := 21) (n := 4) (hp' := zH zo33 hp) dX7_init_95 rfl (by decide +kernel) (by decide) rfl ?_
  refine zw_putr (ci := 7) (k := 9) (c := 11) (b := 21) (sl := [some (some 12), some (some 13), some (some 14), some (some 15), some (some 16), some (some 17), some (some 18), some (some 19), some (some 20), some none, some none, some none, some none, none]) (sh' := zs42) dX7_init_96 rfl qf_X7_39 rfl rfl rfl (fun _ => ⟨rfl, rfl⟩) (by decide +kernel) (by decide) rfl ?_
  refine qb_aloadn dX7_init_99 rfl (i := 0) rfl rfl ?_
  refine qb_iconst dX7_init_100 rfl (by decide) ?_
  refine zw_newa (n := 4) (c := 22) (sh' := zs43) (hp' := zH zo34 hp) (cs' := 11) (ss' := 278) dX7_init_101 rfl rfl (by decide) rfl rfl (by decide +kernel) (by decide +kernel) (by decide) rfl rfl ?_
  refine qb_dup dX7_init_103 rfl rfl ?_
  refine qb_iconst dX7_init_104 rfl (by decide) ?_
  refine qb_sipush dX7_init_105 rfl (by decide) (by decide) ?_
  refine zw_iast (c := 22) (n := 4) (hp' := zH zo35 hp) dX7_init_108 rfl (by decide +kernel) (by decide) rfl ?_
  refine qb_dup dX7_init_109 rfl rfl ?_
  refine qb_iconst dX7_init_110 rfl (by decide) ?_
  refine qb_sipush dX7_init_111 rfl (by decide) (by decide) ?_
  refine zw_iast (c := 22) (n := 4) (hp' := zH zo36 hp) dX7_init_114 rfl (by decide +kernel) (by decide) rfl ?_
  refine qb_dup dX7_init_115 rfl rfl ?_
  refine qb_iconst dX7_init_116 rfl (by decide) ?_
  refine qb_sipush dX7_init_117 rfl (by decide) (by decide) ?_
  exact kk
def zo37 : List (Nat × Option (Int × Int)) := (22, some (2, 500)) :: zo36
def zo38 : List (Nat × Option (Int × Int)) := (22, some (3, 500)) :: zo37
def zs44 : qb_Sh := zs43.set 11 (.inl (7, [some (some 12), some (some 13), some (some 14), some (some 15), some (some 16), some (some 17), some (some 18), some (some 19), some (some 20), some (some 21), some (some 22), some none, some none, none]))
def zs45 : qb_Sh := zs44 ++ [.inr 4]
def zo39 : List (Nat × Option (Int × Int)) := (23, none) :: zo38
def zs46 : qb_Sh := zs45.set 11 (.inl (7, [some (some 12), some (some 13), some (some 14), some (some 15), some (some 16), some (some 17), some (some 18), some (some 19), some (some 20), some (some 21), some (some 22), some (some 23), some none, none]))
def zs47 : qb_Sh := zs46 ++ [.inr 4]
def zo40 : List (Nat × Option (Int × Int)) := (24, none) :: zo39
def zs48 : qb_Sh := zs47.set 11 (.inl (7, [some (some 12), some (some 13), some (some 14), some (some 15), some (some 16), some (some 17), some (some 18), some (some 19), some (some 20), some (some 21), some (some 22), some (some 23), some (some 24), none]))
theorem z4_mX7_init_3 {hp : qb_H} {Q : Option qb_V → qb_H → qb_Sh → Prop} (kk : Q none (zH zo40 hp) zs48) : qb_R mX7_init 11 278 zs43 120 [some (.inr (.inl 11))] [.inl 500, .inl 2, .inr (.inl 22), .inr (.inl 22), .inr (.inl 11)] (zH zo36 hp) Q := by
  refine zw_iast (c := 22) (n := 4) (hp' := zH zo37 hp) dX7_init_120 rfl (by decide +kernel) (by decide) rfl ?_
  refine qb_dup dX7_init_121 rfl rfl ?_
  refine qb_iconst dX7_init_122 rfl (by decide) ?_
  refine qb_sipush dX7_init_123 rfl (by decide) (by decide) ?_
  refine zw_iast (c := 22) (n := 4) (hp' := zH zo38 hp) dX7_init_126 rfl (by decide +kernel) (by decide) rfl ?_
  refine zw_putr (ci := 7) (k := 10) (c := 11) (b := 22) (sl := [some (some 12), some (some 13), some (some 14), some (some 15), some (some 16), some (some 17), some (some 18), some (some 19), some (some 20), some (some 21), some none, some none, some none, none]) (sh' := zs44) dX7_init_127 rfl qf_X7_42 rfl rfl rfl (fun _ => ⟨rfl, rfl⟩) (by decide +kernel) (by decide) rfl ?_
  refine qb_aloadn dX7_init_130 rfl (i := 0) rfl rfl ?_
  refine qb_iconst dX7_init_131 rfl (by decide) ?_
  refine zw_newa (n := 4) (c := 23) (sh' := zs45) (hp' := zH zo39 hp) (cs' := 12) (ss' := 282) dX7_init_132 rfl rfl (by decide) rfl rfl (by decide +kernel) (by decide +kernel) (by decide) rfl rfl ?_
  refine zw_putr (ci := 7) (k := 11) (c := 11) (b := 23) (sl := [some (some 12), some (some 13), some (some 14), some (some 15), some (some 16), some (some 17), some (some 18), some (some 19), some (some 20), some (some 21), some (some 22), some none, some none, none]) (sh' := zs46) dX7_init_134 rfl qf_X7_45 rfl rfl rfl (fun _ => ⟨rfl, rfl⟩) (by decide +kernel) (by decide) rfl ?_
  refine qb_aloadn dX7_init_137 rfl (i := 0) rfl rfl ?_
  refine qb_iconst dX7_init_138 rfl (by decide) ?_
  refine zw_newa (n := 4) (c := 24) (sh' := zs47) (hp' := zH zo40 hp) (cs' := 13) (ss' := 286) dX7_init_139 rfl rfl (by decide) rfl rfl (by decide +kernel) (by decide +kernel) (by decide) rfl rfl ?_
  refine zw_putr (ci := 7) (k := 12) (c := 11) (b := 24) (sl := [some (some 12), some (some 13), some (some 14), some (some 15), some (some 16), some (some 17), some (some 18), some (some 19), some (some 20), some (some 21), some (some 22), some (some 23), some none, none]) (sh' := zs48) dX7_init_141 rfl qf_X7_48 rfl rfl rfl (fun _ => ⟨rfl, rfl⟩) (by decide +kernel) (by decide) rfl ?_
  exact qb_vret dX7_init_144 rfl (by decide) kk
theorem z4_mX7_init {hp : qb_H} {Q : Option qb_V → qb_H → qb_Sh → Prop} (kk : Q none (zH zo40 hp) zs48) : qb_R mX7_init 0 0 zs22 0 [some (.inr (.inl 11))] [] (zH zo19 hp) Q := z4_mX7_init_0 (z4_mX7_init_1 (z4_mX7_init_2 (z4_mX7_init_3 kk)))
def zs49 : qb_Sh := zs48.set 0 (.inl (10, [some (some 1), some (some 3), some (some 10), some (some 11), some none, some none, some none, some none, some none, some none, some none, some none, some none]))
def zs50 : qb_Sh := zs49 ++ [.inl (2, [none, none, none, none, none, none, none, none, none, none])]
def zo41 : List (Nat × Option (Int × Int)) := (25, none) :: zo40
theorem z1_mX10_init_4 {hp : qb_H} {Q : Option qb_V → qb_H → qb_Sh → Prop} (kk : qb_R mX10_init 25 882 zs50 86 [some (.inr (.inl 0))] [.inr (.inl 25), .inr (.inl 25), .inr (.inl 0)] (zH zo41 hp) Q) : qb_R mX10_init 11 586 zs22 75 [some (.inr (.inl 0))] [.inr (.inl 11), .inr (.inl 11), .inr (.inl 0)] (zH zo19 hp) Q := by
  refine qb_callI dX10_init_75 qe_mX10_init_mX7_init (as := []) (b := 11) rfl rfl rfl (by decide) (by decide) (z4_mX7_init (hp := hp) ?_)
  show qb_R mX10_init 24 872 zs48 78 [some (.inr (.inl 0))] [.inr (.inl 11), .inr (.inl 0)] (zH zo40 hp) Q
  refine zw_putr (ci := 10) (k := 3) (c := 0) (b := 11) (sl := [some (some 1), some (some 3), some (some 10), some none, some none, some none, some none, some none, some none, some none, some none, some none, some none]) (sh' := zs49) dX10_init_78 rfl qf_X10_30 rfl rfl rfl (fun _ => ⟨rfl, rfl⟩) (by decide +kernel) (by decide) rfl ?_
  refine qb_aloadn dX10_init_81 rfl (i := 0) rfl rfl ?_
  refine zw_new (ci := 2) (c := 25) (ty := tyX2) (sl := [none, none, none, none, none, none, none, none, none, none]) (sh' := zs50) (hp' := zH zo41 hp) (cs' := 25) (ss' := 882) dX10_init_82 rfl rfl ⟨qn_X10_34, qin_X2, qic_X2⟩ tyX2_ok (by decide +kernel) (by decide +kernel) rfl rfl (by decide +kernel) (by decide +kernel) (by decide) rfl rfl ?_
  refine qb_dup dX10_init_85 rfl rfl ?_
  exact kk
theorem z5_mX2_init_0 {hp : qb_H} {Q : Option qb_V → qb_H → qb_Sh → Prop} (kk : Q none (zH zo41 hp) zs50) : qb_R mX2_init 0 0 zs50 0 [some (.inr (.inl 25))] [] (zH zo41 hp) Q := by
  refine qb_aloadn dX2_init_0 rfl (i := 0) rfl rfl ?_
  refine qb_obj dX2_init_1 rfl qo_X2_3 (by decide) ?_
  exact qb_vret dX2_init_4 rfl (by decide) kk
theorem z5_mX2_init {hp : qb_H} {Q : Option qb_V → qb_H → qb_Sh → Prop} (kk : Q none (zH zo41 hp) zs50) : qb_R mX2_init 0 0 zs50 0 [some (.inr (.inl 25))] [] (zH zo41 hp) Q := z5_mX2_init_0 kk
def zs51 : qb_Sh := zs50.set 0 (.inl (10, [some (some 1), some (some 3), some (some 10), some (some 11), some (some 25), some none, some none, some none, some none, some none, some none, some none, some none]))
def zs52 : qb_Sh := zs51 ++ [.inl (8, [some none, some none, some none, some none, none])]
def zo42 : List (Nat × Option (Int × Int)) := (26, none) :: zo41
theorem z1_mX10_init_5 {hp : qb_H} {Q : Option qb_V → qb_H → qb_Sh → Prop} (kk : qb_R mX10_init 26 887 zs52 97 [some (.inr (.inl 0))] [.inr (.inl 26), .inr (.inl 26), .inr (.inl 0)] (zH zo42 hp) Q) : qb_R mX10_init 25 882 zs50 86 [some (.inr (.inl 0))] [.inr (.inl 25), .inr (.inl 25), .inr (.inl 0)] (zH zo41 hp) Q := by
  refine qb_callIN dX10_init_86 qe_mX10_init_mX2_init rfl rfl qsi_mX2_init rfl (as := []) (b := 25) rfl rfl rfl (by decide) (by decide) (z5_mX2_init (hp := hp) ?_)
  show qb_R mX10_init 25 882 zs50 89 [some (.inr (.inl 0))] [.inr (.inl 25), .inr (.inl 0)] (zH zo41 hp) Q
  refine zw_putr (ci := 10) (k := 4) (c := 0) (b := 25) (sl := [some (some 1), some (some 3), some (some 10), some (some 11), some none, some none, some none, some none, some none, some none, some none, some none, some none]) (sh' := zs51) dX10_init_89 rfl qf_X10_37 rfl rfl rfl (fun _ => ⟨rfl, rfl⟩) (by decide +kernel) (by decide) rfl ?_
  refine qb_aloadn dX10_init_92 rfl (i := 0) rfl rfl ?_
  refine zw_new (ci := 8) (c := 26) (ty := tyX8) (sl := [some none, some none, some none, some none, none]) (sh' := zs52) (hp' := zH zo42 hp) (cs' := 26) (ss' := 887) dX10_init_93 rfl rfl ⟨qn_X10_41, qin_X8, qic_X8⟩ tyX8_ok (by decide +kernel) (by decide +kernel) rfl rfl (by decide +kernel) (by decide +kernel) (by decide) rfl rfl ?_
  refine qb_dup dX10_init_96 rfl rfl ?_
  exact kk
def zs53 : qb_Sh := zs52 ++ [.inr 12]
def zo43 : List (Nat × Option (Int × Int)) := (27, none) :: zo42
def zs54 : qb_Sh := zs53.set 26 (.inl (8, [some (some 27), some none, some none, some none, none]))
def zs55 : qb_Sh := zs54 ++ [.inr 12]
def zo44 : List (Nat × Option (Int × Int)) := (28, none) :: zo43
def zs56 : qb_Sh := zs55.set 26 (.inl (8, [some (some 27), some (some 28), some none, some none, none]))
def zs57 : qb_Sh := zs56 ++ [.inr 12]
def zo45 : List (Nat × Option (Int × Int)) := (29, none) :: zo44
def zs58 : qb_Sh := zs57.set 26 (.inl (8, [some (some 27), some (some 28), some (some 29), some none, none]))
def zs59 : qb_Sh := zs58 ++ [.inr 12]
def zo46 : List (Nat × Option (Int × Int)) := (30, none) :: zo45
def zs60 : qb_Sh := zs59.set 26 (.inl (8, [some (some 27), some (some 28), some (some 29), some (some 30), none]))
theorem z6_mX8_init_0 {hp : qb_H} {Q : Option qb_V → qb_H → qb_Sh → Prop} (kk : Q none (zH zo46 hp) zs60) : qb_R mX8_init 0 0 zs52 0 [some (.inr (.inl 26))] [] (zH zo42 hp) Q := by
  refine qb_aloadn dX8_init_0 rfl (i := 0) rfl rfl ?_
  refine qb_obj dX8_init_1 rfl qo_X8_3 (by decide) ?_
  refine qb_aloadn dX8_init_4 rfl (i := 0) rfl rfl ?_
  refine qb_bipush dX8_init_5 rfl (by decide) (by decide) ?_
  refine zw_newa (n := 12) (c := 27) (sh' := zs53) (hp' := zH zo43 hp) (cs' := 1) (ss' := 12) dX8_init_7 rfl rfl (by decide) rfl rfl (by decide +kernel) (by decide +kernel) (by decide) rfl rfl ?_
  refine zw_putr (ci := 8) (k := 0) (c := 26) (b := 27) (sl := [some none, some none, some none, some none, none]) (sh' := zs54) dX8_init_9 rfl qf_X8_9 rfl rfl rfl (fun _ => ⟨rfl, rfl⟩) (by decide +kernel) (by decide) rfl ?_
  refine qb_aloadn dX8_init_12 rfl (i := 0) rfl rfl ?_
  refine qb_bipush dX8_init_13 rfl (by decide) (by decide) ?_
  refine zw_newa (n := 12) (c := 28) (sh' := zs55) (hp' := zH zo44 hp) (cs' := 2) (ss' := 24) dX8_init_15 rfl rfl (by decide) rfl rfl (by decide +kernel) (by decide +kernel) (by decide) rfl rfl ?_
  refine zw_putr (ci := 8) (k := 1) (c := 26) (b := 28) (sl := [some (some 27), some none, some none, some none, none]) (sh' := zs56) dX8_init_17 rfl qf_X8_15 rfl rfl rfl (fun _ => ⟨rfl, rfl⟩) (by decide +kernel) (by decide) rfl ?_
  refine qb_aloadn dX8_init_20 rfl (i := 0) rfl rfl ?_
  refine qb_bipush dX8_init_21 rfl (by decide) (by decide) ?_
  refine zw_newa (n := 12) (c := 29) (sh' := zs57) (hp' := zH zo45 hp) (cs' := 3) (ss' := 36) dX8_init_23 rfl rfl (by decide) rfl rfl (by decide +kernel) (by decide +kernel) (by decide) rfl rfl ?_
  refine zw_putr (ci := 8) (k := 2) (c := 26) (b := 29) (sl := [some (some 27), some (some 28), some none, some none, none]) (sh' := zs58) dX8_init_25 rfl qf_X8_18 rfl rfl rfl (fun _ => ⟨rfl, rfl⟩) (by decide +kernel) (by decide) rfl ?_
  refine qb_aloadn dX8_init_28 rfl (i := 0) rfl rfl ?_
  refine qb_bipush dX8_init_29 rfl (by decide) (by decide) ?_
  refine zw_newa (n := 12) (c := 30) (sh' := zs59) (hp' := zH zo46 hp) (cs' := 4) (ss' := 48) dX8_init_31 rfl rfl (by decide) rfl rfl (by decide +kernel) (by decide +kernel) (by decide) rfl rfl ?_
  refine zw_putr (ci := 8) (k := 3) (c := 26) (b := 30) (sl := [some (some 27), some (some 28), some (some 29), some none, none]) (sh' := zs60) dX8_init_33 rfl qf_X8_21 rfl rfl rfl (fun _ => ⟨rfl, rfl⟩) (by decide +kernel) (by decide) rfl ?_
  exact qb_vret dX8_init_36 rfl (by decide) kk
theorem z6_mX8_init {hp : qb_H} {Q : Option qb_V → qb_H → qb_Sh → Prop} (kk : Q none (zH zo46 hp) zs60) : qb_R mX8_init 0 0 zs52 0 [some (.inr (.inl 26))] [] (zH zo42 hp) Q := z6_mX8_init_0 kk
def zs61 : qb_Sh := zs60.set 0 (.inl (10, [some (some 1), some (some 3), some (some 10), some (some 11), some (some 25), some (some 26), some none, some none, some none, some none, some none, some none, some none]))
def zs62 : qb_Sh := zs61 ++ [.inr 5]
def zo47 : List (Nat × Option (Int × Int)) := (31, none) :: zo46
def zs63 : qb_Sh := zs62.set 0 (.inl (10, [some (some 1), some (some 3), some (some 10), some (some 11), some (some 25), some (some 26), some (some 31), some none, some none, some none, some none, some none, some none]))
def zs64 : qb_Sh := zs63 ++ [.inl (6, [some none, some none, some none, none, none, none])]
def zo48 : List (Nat × Option (Int × Int)) := (32, none) :: zo47
theorem z1_mX10_init_6 {hp : qb_H} {Q : Option qb_V → qb_H → qb_Sh → Prop} (kk : qb_R mX10_init 32 946 zs64 115 [some (.inr (.inl 0))] [.inr (.inl 32), .inr (.inl 32), .inr (.inl 0)] (zH zo48 hp) Q) : qb_R mX10_init 26 887 zs52 97 [some (.inr (.inl 0))] [.inr (.inl 26), .inr (.inl 26), .inr (.inl 0)] (zH zo42 hp) Q := by
  refine qb_callI dX10_init_97 qe_mX10_init_mX8_init (as := []) (b := 26) rfl rfl rfl (by decide) (by decide) (z6_mX8_init (hp := hp) ?_)
  show qb_R mX10_init 30 935 zs60 100 [some (.inr (.inl 0))] [.inr (.inl 26), .inr (.inl 0)] (zH zo46 hp) Q
  refine zw_putr (ci := 10) (k := 5) (c := 0) (b := 26) (sl := [some (some 1), some (some 3), some (some 10), some (some 11), some (some 25), some none, some none, some none, some none, some none, some none, some none, some none]) (sh' := zs61) dX10_init_100 rfl qf_X10_44 rfl rfl rfl (fun _ => ⟨rfl, rfl⟩) (by decide +kernel) (by decide) rfl ?_
  refine qb_aloadn dX10_init_103 rfl (i := 0) rfl rfl ?_
  refine qb_iconst dX10_init_104 rfl (by decide) ?_
  refine zw_newa (n := 5) (c := 31) (sh' := zs62) (hp' := zH zo47 hp) (cs' := 31) (ss' := 940) dX10_init_105 rfl rfl (by decide) rfl rfl (by decide +kernel) (by decide +kernel) (by decide) rfl rfl ?_
  refine zw_putr (ci := 10) (k := 6) (c := 0) (b := 31) (sl := [some (some 1), some (some 3), some (some 10), some (some 11), some (some 25), some (some 26), some none, some none, some none, some none, some none, some none, some none]) (sh' := zs63) dX10_init_107 rfl qf_X10_48 rfl rfl rfl (fun _ => ⟨rfl, rfl⟩) (by decide +kernel) (by decide) rfl ?_
  refine qb_aloadn dX10_init_110 rfl (i := 0) rfl rfl ?_
  refine zw_new (ci := 6) (c := 32) (ty := tyX6) (sl := [some none, some none, some none, none, none, none]) (sh' := zs64) (hp' := zH zo48 hp) (cs' := 32) (ss' := 946) dX10_init_111 rfl rfl ⟨qn_X10_51, qin_X6, qic_X6⟩ tyX6_ok (by decide +kernel) (by decide +kernel) rfl rfl (by decide +kernel) (by decide +kernel) (by decide) rfl rfl ?_
  refine qb_dup dX10_init_114 rfl rfl ?_
  exact kk
def zs65 : qb_Sh := zs64 ++ [.inr 30]
def zo49 : List (Nat × Option (Int × Int)) := (33, none) :: zo48
def zs66 : qb_Sh := zs65.set 32 (.inl (6, [some (some 33), some none, some none, none, none, none]))
def zs67 : qb_Sh := zs66 ++ [.inr 30]
def zo50 : List (Nat × Option (Int × Int)) := (34, none) :: zo49
def zs68 : qb_Sh := zs67.set 32 (.inl (6, [some (some 33), some (some 34), some none, none, none, none]))
def zs69 : qb_Sh := zs68 ++ [.inr 3]
def zo51 : List (Nat × Option (Int × Int)) := (35, none) :: zo50
def zs70 : qb_Sh := zs69.set 32 (.inl (6, [some (some 33), some (some 34), some (some 35), none, none, none]))
theorem z7_mX6_init_0 {hp : qb_H} {Q : Option qb_V → qb_H → qb_Sh → Prop} (kk : Q none (zH zo51 hp) zs70) : qb_R mX6_init 0 0 zs64 0 [some (.inr (.inl 32))] [] (zH zo48 hp) Q := by
  refine qb_aloadn dX6_init_0 rfl (i := 0) rfl rfl ?_
  refine qb_obj dX6_init_1 rfl qo_X6_3 (by decide) ?_
  refine qb_aloadn dX6_init_4 rfl (i := 0) rfl rfl ?_
  refine qb_bipush dX6_init_5 rfl (by decide) (by decide) ?_
  refine zw_newa (n := 30) (c := 33) (sh' := zs65) (hp' := zH zo49 hp) (cs' := 1) (ss' := 30) dX6_init_7 rfl rfl (by decide) rfl rfl (by decide +kernel) (by decide +kernel) (by decide) rfl rfl ?_
  refine zw_putr (ci := 6) (k := 0) (c := 32) (b := 33) (sl := [some none, some none, some none, none, none, none]) (sh' := zs66) dX6_init_9 rfl qf_X6_9 rfl rfl rfl (fun _ => ⟨rfl, rfl⟩) (by decide +kernel) (by decide) rfl ?_
  refine qb_aloadn dX6_init_12 rfl (i := 0) rfl rfl ?_
  refine qb_bipush dX6_init_13 rfl (by decide) (by decide) ?_
  refine zw_newa (n := 30) (c := 34) (sh' := zs67) (hp' := zH zo50 hp) (cs' := 2) (ss' := 60) dX6_init_15 rfl rfl (by decide) rfl rfl (by decide +kernel) (by decide +kernel) (by decide) rfl rfl ?_
  refine zw_putr (ci := 6) (k := 1) (c := 32) (b := 34) (sl := [some (some 33), some none, some none, none, none, none]) (sh' := zs68) dX6_init_17 rfl qf_X6_15 rfl rfl rfl (fun _ => ⟨rfl, rfl⟩) (by decide +kernel) (by decide) rfl ?_
  refine qb_aloadn dX6_init_20 rfl (i := 0) rfl rfl ?_
  refine qb_iconst dX6_init_21 rfl (by decide) ?_
  refine zw_newa (n := 3) (c := 35) (sh' := zs69) (hp' := zH zo51 hp) (cs' := 3) (ss' := 63) dX6_init_22 rfl rfl (by decide) rfl rfl (by decide +kernel) (by decide +kernel) (by decide) rfl rfl ?_
  refine zw_putr (ci := 6) (k := 2) (c := 32) (b := 35) (sl := [some (some 33), some (some 34), some none, none, none, none]) (sh' := zs70) dX6_init_24 rfl qf_X6_18 rfl rfl rfl (fun _ => ⟨rfl, rfl⟩) (by decide +kernel) (by decide) rfl ?_
  exact qb_vret dX6_init_27 rfl (by decide) kk
theorem z7_mX6_init {hp : qb_H} {Q : Option qb_V → qb_H → qb_Sh → Prop} (kk : Q none (zH zo51 hp) zs70) : qb_R mX6_init 0 0 zs64 0 [some (.inr (.inl 32))] [] (zH zo48 hp) Q := z7_mX6_init_0 kk
def zs71 : qb_Sh := zs70.set 0 (.inl (10, [some (some 1), some (some 3), some (some 10), some (some 11), some (some 25), some (some 26), some (some 31), some (some 32), some none, some none, some none, some none, some none]))
def zs72 : qb_Sh := zs71 ++ [.inl (1, [some none, some none, some none])]
def zo52 : List (Nat × Option (Int × Int)) := (36, none) :: zo51
theorem z1_mX10_init_7 {hp : qb_H} {Q : Option qb_V → qb_H → qb_Sh → Prop} (kk : qb_R mX10_init 36 1012 zs72 126 [some (.inr (.inl 0))] [.inr (.inl 36), .inr (.inl 36), .inr (.inl 0)] (zH zo52 hp) Q) : qb_R mX10_init 32 946 zs64 115 [some (.inr (.inl 0))] [.inr (.inl 32), .inr (.inl 32), .inr (.inl 0)] (zH zo48 hp) Q := by
  refine qb_callI dX10_init_115 qe_mX10_init_mX6_init (as := []) (b := 32) rfl rfl rfl (by decide) (by decide) (z7_mX6_init (hp := hp) ?_)
  show qb_R mX10_init 35 1009 zs70 118 [some (.inr (.inl 0))] [.inr (.inl 32), .inr (.inl 0)] (zH zo51 hp) Q
  refine zw_putr (ci := 10) (k := 7) (c := 0) (b := 32) (sl := [some (some 1), some (some 3), some (some 10), some (some 11), some (some 25), some (some 26), some (some 31), some none, some none, some none, some none, some none, some none]) (sh' := zs71) dX10_init_118 rfl qf_X10_54 rfl rfl rfl (fun _ => ⟨rfl, rfl⟩) (by decide +kernel) (by decide) rfl ?_
  refine qb_aloadn dX10_init_121 rfl (i := 0) rfl rfl ?_
  refine zw_new (ci := 1) (c := 36) (ty := tyX1) (sl := [some none, some none, some none]) (sh' := zs72) (hp' := zH zo52 hp) (cs' := 36) (ss' := 1012) dX10_init_122 rfl rfl ⟨qn_X10_58, qin_X1, qic_X1⟩ tyX1_ok (by decide +kernel) (by decide +kernel) rfl rfl (by decide +kernel) (by decide +kernel) (by decide) rfl rfl ?_
  refine qb_dup dX10_init_125 rfl rfl ?_
  exact kk
def zs73 : qb_Sh := zs72 ++ [.inr 10]
def zo53 : List (Nat × Option (Int × Int)) := (37, none) :: zo52
def zs74 : qb_Sh := zs73.set 36 (.inl (1, [some (some 37), some none, some none]))
def zs75 : qb_Sh := zs74 ++ [.inr 10]
def zo54 : List (Nat × Option (Int × Int)) := (38, none) :: zo53
def zs76 : qb_Sh := zs75.set 36 (.inl (1, [some (some 37), some (some 38), some none]))
def zs77 : qb_Sh := zs76 ++ [.inr 10]
def zo55 : List (Nat × Option (Int × Int)) := (39, none) :: zo54
def zs78 : qb_Sh := zs77.set 36 (.inl (1, [some (some 37), some (some 38), some (some 39)]))
def zo56 : List (Nat × Option (Int × Int)) := (37, some (0, (-1))) :: zo55
theorem z8_mX1_init_0 {hp : qb_H} {Q : Option qb_V → qb_H → qb_Sh → Prop} (kk : qb_R mX1_init 3 30 zs78 43 [some (.inr (.inl 36)), some (.inl 0)] [] (zH zo56 hp) Q) : qb_R mX1_init 0 0 zs72 0 [some (.inr (.inl 36)), none] [] (zH zo52 hp) Q := by
  refine qb_aloadn dX1_init_0 rfl (i := 0) rfl rfl ?_
  refine qb_obj dX1_init_1 rfl qo_X1_3 (by decide) ?_
  refine qb_aloadn dX1_init_4 rfl (i := 0) rfl rfl ?_
  refine qb_bipush dX1_init_5 rfl (by decide) (by decide) ?_
  refine zw_newa (n := 10) (c := 37) (sh' := zs73) (hp' := zH zo53 hp) (cs' := 1) (ss' := 10) dX1_init_7 rfl rfl (by decide) rfl rfl (by decide +kernel) (by decide +kernel) (by decide) rfl rfl ?_
  refine zw_putr (ci := 1) (k := 0) (c := 36) (b := 37) (sl := [some none, some none, some none]) (sh' := zs74) dX1_init_9 rfl qf_X1_9 rfl rfl rfl (fun _ => ⟨rfl, rfl⟩) (by decide +kernel) (by decide) rfl ?_
  refine qb_aloadn dX1_init_12 rfl (i := 0) rfl rfl ?_
  refine qb_bipush dX1_init_13 rfl (by decide) (by decide) ?_
  refine zw_newa (n := 10) (c := 38) (sh' := zs75) (hp' := zH zo54 hp) (cs' := 2) (ss' := 20) dX1_init_15 rfl rfl (by decide) rfl rfl (by decide +kernel) (by decide +kernel) (by decide) rfl rfl ?_
  refine zw_putr (ci := 1) (k := 1) (c := 36) (b := 38) (sl := [some (some 37), some none, some none]) (sh' := zs76) dX1_init_17 rfl qf_X1_15 rfl rfl rfl (fun _ => ⟨rfl, rfl⟩) (by decide +kernel) (by decide) rfl ?_
  refine qb_aloadn dX1_init_20 rfl (i := 0) rfl rfl ?_
  refine qb_bipush dX1_init_21 rfl (by decide) (by decide) ?_
  refine zw_newa (n := 10) (c := 39) (sh' := zs77) (hp' := zH zo55 hp) (cs' := 3) (ss' := 30) dX1_init_23 rfl rfl (by decide) rfl rfl (by decide +kernel) (by decide +kernel) (by decide) rfl rfl ?_
  refine zw_putr (ci := 1) (k := 2) (c := 36) (b := 39) (sl := [some (some 37), some (some 38), some none]) (sh' := zs78) dX1_init_25 rfl qf_X1_18 rfl rfl rfl (fun _ => ⟨rfl, rfl⟩) (by decide +kernel) (by decide) rfl ?_
  refine qb_iconst dX1_init_28 rfl (by decide) ?_
  refine qb_istoren dX1_init_29 rfl (i := 1) rfl (by decide) rfl rfl ?_
  refine qb_iloadn dX1_init_30 rfl (i := 1) rfl rfl ?_
  refine qb_bipush dX1_init_31 rfl (by decide) (by decide) ?_
  refine qb_cge dX1_init_33 (tgt := 49) rfl rfl (fun h => absurd h (by decide)) (fun _ => ?_)
  refine qb_aloadn dX1_init_36 rfl (i := 0) rfl rfl ?_
  refine qb_geta (c := 36) (b := 37) (sl := [some (some 37), some (some 38), some (some 39)]) dX1_init_37 rfl qf_X1_9 (by decide +kernel) rfl ?_
  refine qb_iloadn dX1_init_40 rfl (i := 1) rfl rfl ?_
  refine qb_iconst dX1_init_41 rfl (by decide) ?_
  refine zw_iast (c := 37) (n := 10) (hp' := zH zo56 hp) dX1_init_42 rfl (by decide +kernel) (by decide) rfl ?_
  exact kk
def zo57 : List (Nat × Option (Int × Int)) := (37, some (1, (-1))) :: zo56
def zo58 : List (Nat × Option (Int × Int)) := (37, some (2, (-1))) :: zo57
theorem z8_mX1_init_1 {hp : qb_H} {Q : Option qb_V → qb_H → qb_Sh → Prop} (kk : qb_R mX1_init 3 30 zs78 33 [some (.inr (.inl 36)), some (.inl 3)] [.inl 10, .inl 3] (zH zo58 hp) Q) : qb_R mX1_init 3 30 zs78 43 [some (.inr (.inl 36)), some (.inl 0)] [] (zH zo56 hp) Q := by
  refine qb_iinc (L' := [some (.inr (.inl 36)), some (.inl 1)]) dX1_init_43 rfl (i := 1) rfl ⟨by decide, by decide⟩ (by decide) rfl rfl ?_
  refine qb_goto dX1_init_46 (tgt := 30) rfl ?_
  refine qb_iloadn dX1_init_30 rfl (i := 1) rfl rfl ?_
  refine qb_bipush dX1_init_31 rfl (by decide) (by decide) ?_
  refine qb_cge dX1_init_33 (tgt := 49) rfl rfl (fun h => absurd h (by decide)) (fun _ => ?_)
  refine qb_aloadn dX1_init_36 rfl (i := 0) rfl rfl ?_
  refine qb_geta (c := 36) (b := 37) (sl := [some (some 37), some (some 38), some (some 39)]) dX1_init_37 rfl qf_X1_9 (by decide +kernel) rfl ?_
  refine qb_iloadn dX1_init_40 rfl (i := 1) rfl rfl ?_
  refine qb_iconst dX1_init_41 rfl (by decide) ?_
  refine zw_iast (c := 37) (n := 10) (hp' := zH zo57 hp) dX1_init_42 rfl (by decide +kernel) (by decide) rfl ?_
  refine qb_iinc (L' := [some (.inr (.inl 36)), some (.inl 2)]) dX1_init_43 rfl (i := 1) rfl ⟨by decide, by decide⟩ (by decide) rfl rfl ?_
  refine qb_goto dX1_init_46 (tgt := 30) rfl ?_
  refine qb_iloadn dX1_init_30 rfl (i := 1) rfl rfl ?_
  refine qb_bipush dX1_init_31 rfl (by decide) (by decide) ?_
  refine qb_cge dX1_init_33 (tgt := 49) rfl rfl (fun h => absurd h (by decide)) (fun _ => ?_)
  refine qb_aloadn dX1_init_36 rfl (i := 0) rfl rfl ?_
  refine qb_geta (c := 36) (b := 37) (sl := [some (some 37), some (some 38), some (some 39)]) dX1_init_37 rfl qf_X1_9 (by decide +kernel) rfl ?_
  refine qb_iloadn dX1_init_40 rfl (i := 1) rfl rfl ?_
  refine qb_iconst dX1_init_41 rfl (by decide) ?_
  refine zw_iast (c := 37) (n := 10) (hp' := zH zo58 hp) dX1_init_42 rfl (by decide +kernel) (by decide) rfl ?_
  refine qb_iinc (L' := [some (.inr (.inl 36)), some (.inl 3)]) dX1_init_43 rfl (i := 1) rfl ⟨by decide, by decide⟩ (by decide) rfl rfl ?_
  refine qb_goto dX1_init_46 (tgt := 30) rfl ?_
  refine qb_iloadn dX1_init_30 rfl (i := 1) rfl rfl ?_
  refine qb_bipush dX1_init_31 rfl (by decide) (by decide) ?_
  exact kk
def zo59 : List (Nat × Option (Int × Int)) := (37, some (3, (-1))) :: zo58
def zo60 : List (Nat × Option (Int × Int)) := (37, some (4, (-1))) :: zo59
theorem z8_mX1_init_2 {hp : qb_H} {Q : Option qb_V → qb_H → qb_Sh → Prop} (kk : qb_R mX1_init 3 30 zs78 41 [some (.inr (.inl 36)), some (.inl 5)] [.inl 5, .inr (.inl 37)] (zH zo60 hp) Q) : qb_R mX1_init 3 30 zs78 33 [some (.inr (.inl 36)), some (.inl 3)] [.inl 10, .inl 3] (zH zo58 hp) Q := by
  refine qb_cge dX1_init_33 (tgt := 49) rfl rfl (fun h => absurd h (by decide)) (fun _ => ?_)
  refine qb_aloadn dX1_init_36 rfl (i := 0) rfl rfl ?_
  refine qb_geta (c := 36) (b := 37) (sl := [some (some 37), some (some 38), some (some 39)]) dX1_init_37 rfl qf_X1_9 (by decide +kernel) rfl ?_
  refine qb_iloadn dX1_init_40 rfl (i := 1) rfl rfl ?_
  refine qb_iconst dX1_init_41 rfl (by decide) ?_
  refine zw_iast (c := 37) (n := 10) (hp' := zH zo59 hp) dX1_init_42 rfl (by decide +kernel) (by decide) rfl ?_
  refine qb_iinc (L' := [some (.inr (.inl 36)), some (.inl 4)]) dX1_init_43 rfl (i := 1) rfl ⟨by decide, by decide⟩ (by decide) rfl rfl ?_
  refine qb_goto dX1_init_46 (tgt := 30) rfl ?_
  refine qb_iloadn dX1_init_30 rfl (i := 1) rfl rfl ?_
  refine qb_bipush dX1_init_31 rfl (by decide) (by decide) ?_
  refine qb_cge dX1_init_33 (tgt := 49) rfl rfl (fun h => absurd h (by decide)) (fun _ => ?_)
  refine qb_aloadn dX1_init_36 rfl (i := 0) rfl rfl ?_
  refine qb_geta (c := 36) (b := 37) (sl := [some (some 37), some (some 38), some (some 39)]) dX1_init_37 rfl qf_X1_9 (by decide +kernel) rfl ?_
  refine qb_iloadn dX1_init_40 rfl (i := 1) rfl rfl ?_
  refine qb_iconst dX1_init_41 rfl (by decide) ?_
  refine zw_iast (c := 37) (n := 10) (hp' := zH zo60 hp) dX1_init_42 rfl (by decide +kernel) (by decide) rfl ?_
  refine qb_iinc (L' := [some (.inr (.inl 36)), some (.inl 5)]) dX1_init_43 rfl (i := 1) rfl ⟨by decide, by decide⟩ (by decide) rfl rfl ?_
  refine qb_goto dX1_init_46 (tgt := 30) rfl ?_
  refine qb_iloadn dX1_init_30 rfl (i := 1) rfl rfl ?_
  refine qb_bipush dX1_init_31 rfl (by decide) (by decide) ?_
  refine qb_cge dX1_init_33 (tgt := 49) rfl rfl (fun h => absurd h (by decide)) (fun _ => ?_)
  refine qb_aloadn dX1_init_36 rfl (i := 0) rfl rfl ?_
  refine qb_geta (c := 36) (b := 37) (sl := [some (some 37), some (some 38), some (some 39)]) dX1_init_37 rfl qf_X1_9 (by decide +kernel) rfl ?_
  refine qb_iloadn dX1_init_40 rfl (i := 1) rfl rfl ?_
  exact kk
def zo61 : List (Nat × Option (Int × Int)) := (37, some (5, (-1))) :: zo60
def zo62 : List (Nat × Option (Int × Int)) := (37, some (6, (-1))) :: zo61
def zo63 : List (Nat × Option (Int × Int)) := (37, some (7, (-1))) :: zo62
theorem z8_mX1_init_3 {hp : qb_H} {Q : Option qb_V → qb_H → qb_Sh → Prop} (kk : qb_R mX1_init 3 30 zs78 30 [some (.inr (.inl 36)), some (.inl 8)] [] (zH zo63 hp) Q) : qb_R mX1_init 3 30 zs78 41 [some (.inr (.inl 36)), some (.inl 5)] [.inl 5, .inr (.inl 37)] (zH zo60 hp) Q := by
  refine qb_iconst dX1_init_41 rfl (by decide) ?_
  refine zw_iast (c := 37) (n := 10) (hp' := zH zo61 hp) dX1_init_42 rfl (by decide +kernel) (by decide) rfl ?_
  refine qb_iinc (L' := [some (.inr (.inl 36)), some (.inl 6)]) dX1_init_43 rfl (i := 1) rfl ⟨by decide, by decide⟩ (by decide) rfl rfl ?_
  refine qb_goto dX1_init_46 (tgt := 30) rfl ?_
  refine qb_iloadn dX1_init_30 rfl (i := 1) rfl rfl ?_
  refine qb_bipush dX1_init_31 rfl (by decide) (by decide) ?_
  refine qb_cge dX1_init_33 (tgt := 49) rfl rfl (fun h => absurd h (by decide)) (fun _ => ?_)
  refine qb_aloadn dX1_init_36 rfl (i := 0) rfl rfl ?_
  refine qb_geta (c := 36) (b := 37) (sl := [some (some 37), some (some 38), some (some 39)]) dX1_init_37 rfl qf_X1_9 (by decide +kernel) rfl ?_
  refine qb_iloadn dX1_init_40 rfl (i := 1) rfl rfl ?_
  refine qb_iconst dX1_init_41 rfl (by decide) ?_
  refine zw_iast (c := 37) (n := 10) (hp' := zH zo62 hp) dX1_init_42 rfl (by decide +kernel) (by decide) rfl ?_
  refine qb_iinc (L' := [some (.inr (.inl 36)), some (.inl 7)]) dX1_init_43 rfl (i := 1) rfl ⟨by decide, by decide⟩ (by decide) rfl rfl ?_
  refine qb_goto dX1_init_46 (tgt := 30) rfl ?_
  refine qb_iloadn dX1_init_30 rfl (i := 1) rfl rfl ?_
  refine qb_bipush dX1_init_31 rfl (by decide) (by decide) ?_
  refine qb_cge dX1_init_33 (tgt := 49) rfl rfl (fun h => absurd h (by decide)) (fun _ => ?_)
  refine qb_aloadn dX1_init_36 rfl (i := 0) rfl rfl ?_
  refine qb_geta (c := 36) (b := 37) (sl := [some (some 37), some (some 38), some (some 39)]) dX1_init_37 rfl qf_X1_9 (by decide +kernel) rfl ?_
  refine qb_iloadn dX1_init_40 rfl (i := 1) rfl rfl ?_
  refine qb_iconst dX1_init_41 rfl (by decide) ?_
  refine zw_iast (c := 37) (n := 10) (hp' := zH zo63 hp) dX1_init_42 rfl (by decide +kernel) (by decide) rfl ?_
  refine qb_iinc (L' := [some (.inr (.inl 36)), some (.inl 8)]) dX1_init_43 rfl (i := 1) rfl ⟨by decide, by decide⟩ (by decide) rfl rfl ?_
  refine qb_goto dX1_init_46 (tgt := 30) rfl ?_
  exact kk
def zo64 : List (Nat × Option (Int × Int)) := (37, some (8, (-1))) :: zo63
def zo65 : List (Nat × Option (Int × Int)) := (37, some (9, (-1))) :: zo64
theorem z8_mX1_init_4 {hp : qb_H} {Q : Option qb_V → qb_H → qb_Sh → Prop} (kk : Q none (zH zo65 hp) zs78) : qb_R mX1_init 3 30 zs78 30 [some (.inr (.inl 36)), some (.inl 8)] [] (zH zo63 hp) Q := by
  refine qb_iloadn dX1_init_30 rfl (i := 1) rfl rfl ?_
  refine qb_bipush dX1_init_31 rfl (by decide) (by decide) ?_
  refine qb_cge dX1_init_33 (tgt := 49) rfl rfl (fun h => absurd h (by decide)) (fun _ => ?_)
  refine qb_aloadn dX1_init_36 rfl (i := 0) rfl rfl ?_
  refine qb_geta (c := 36) (b := 37) (sl := [some (some 37), some (some 38), some (some 39)]) dX1_init_37 rfl qf_X1_9 (by decide +kernel) rfl ?_
  refine qb_iloadn dX1_init_40 rfl (i := 1) rfl rfl ?_
  refine qb_iconst dX1_init_41 rfl (by decide) ?_
  refine zw_iast (c := 37) (n := 10) (hp' := zH zo64 hp) dX1_init_42 rfl (by decide +kernel) (by decide) rfl ?_
  refine qb_iinc (L' := [some (.inr (.inl 36)), some (.inl 9)]) dX1_init_43 rfl (i := 1) rfl ⟨by decide, by decide⟩ (by decide) rfl rfl ?_
  refine qb_goto dX1_init_46 (tgt := 30) rfl ?_
  refine qb_iloadn dX1_init_30 rfl (i := 1) rfl rfl ?_
  refine qb_bipush dX1_init_31 rfl (by decide) (by decide) ?_
  refine qb_cge dX1_init_33 (tgt := 49) rfl rfl (fun h => absurd h (by decide)) (fun _ => ?_)
  refine qb_aloadn dX1_init_36 rfl (i := 0) rfl rfl ?_
  refine qb_geta (c := 36) (b := 37) (sl := [some (some 37), some (some 38), some (some 39)]) dX1_init_37 rfl qf_X1_9 (by decide +kernel) rfl ?_
  refine qb_iloadn dX1_init_40 rfl (i := 1) rfl rfl ?_
  refine qb_iconst dX1_init_41 rfl (by decide) ?_
  refine zw_iast (c := 37) (n := 10) (hp' := zH zo65 hp) dX1_init_42 rfl (by decide +kernel) (by decide) rfl ?_
  refine qb_iinc (L' := [some (.inr (.inl 36)), some (.inl 10)]) dX1_init_43 rfl (i := 1) rfl ⟨by decide, by decide⟩ (by decide) rfl rfl ?_
  refine qb_goto dX1_init_46 (tgt := 30) rfl ?_
  refine qb_iloadn dX1_init_30 rfl (i := 1) rfl rfl ?_
  refine qb_bipush dX1_init_31 rfl (by decide) (by decide) ?_
  refine qb_cge dX1_init_33 (tgt := 49) rfl rfl (fun _ => ?_) (fun h => absurd h (by decide))
  exact qb_vret dX1_init_49 rfl (by decide) kk
theorem z8_mX1_init {hp : qb_H} {Q : Option qb_V → qb_H → qb_Sh → Prop} (kk : Q none (zH zo65 hp) zs78) : qb_R mX1_init 0 0 zs72 0 [some (.inr (.inl 36)), none] [] (zH zo52 hp) Q := z8_mX1_init_0 (z8_mX1_init_1 (z8_mX1_init_2 (z8_mX1_init_3 (z8_mX1_init_4 kk))))
def zs79 : qb_Sh := zs78.set 0 (.inl (10, [some (some 1), some (some 3), some (some 10), some (some 11), some (some 25), some (some 26), some (some 31), some (some 32), some (some 36), some none, some none, some none, some none]))
def zs80 : qb_Sh := zs79 ++ [.inl (5, [some none, some none, some none, some none, none])]
def zo66 : List (Nat × Option (Int × Int)) := (40, none) :: zo65
theorem z1_mX10_init_8 {hp : qb_H} {Q : Option qb_V → qb_H → qb_Sh → Prop} (kk : qb_R mX10_init 40 1047 zs80 137 [some (.inr (.inl 0))] [.inr (.inl 40), .inr (.inl 40), .inr (.inl 0)] (zH zo66 hp) Q) : qb_R mX10_init 36 1012 zs72 126 [some (.inr (.inl 0))] [.inr (.inl 36), .inr (.inl 36), .inr (.inl 0)] (zH zo52 hp) Q := by
  refine qb_callI dX10_init_126 qe_mX10_init_mX1_init (as := []) (b := 36) rfl rfl rfl (by decide) (by decide) (z8_mX1_init (hp := hp) ?_)
  show qb_R mX10_init 39 1042 zs78 129 [some (.inr (.inl 0))] [.inr (.inl 36), .inr (.inl 0)] (zH zo65 hp) Q
  refine zw_putr (ci := 10) (k := 8) (c := 0) (b := 36) (sl := [some (some 1), some (some 3), some (some 10), some (some 11), some (some 25), some (some 26), some (some 31), some (some 32), some none, some none, some none, some none, some none]) (sh' := zs79) dX10_init_129 rfl qf_X10_61 rfl rfl rfl (fun _ => ⟨rfl, rfl⟩) (by decide +kernel) (by decide) rfl ?_
  refine qb_aloadn dX10_init_132 rfl (i := 0) rfl rfl ?_
  refine zw_new (ci := 5) (c := 40) (ty := tyX5) (sl := [some none, some none, some none, some none, none]) (sh' := zs80) (hp' := zH zo66 hp) (cs' := 40) (ss' := 1047) dX10_init_133 rfl rfl ⟨qn_X10_65, qin_X5, qic_X5⟩ tyX5_ok (by decide +kernel) (by decide +kernel) rfl rfl (by decide +kernel) (by decide +kernel) (by decide) rfl rfl ?_
  refine qb_dup dX10_init_136 rfl rfl ?_
  exact kk
def zs81 : qb_Sh := zs80 ++ [.inr 60]
def zo67 : List (Nat × Option (Int × Int)) := (41, none) :: zo66
def zs82 : qb_Sh := zs81.set 40 (.inl (5, [some (some 41), some none, some none, some none, none]))
def zs83 : qb_Sh := zs82 ++ [.inr 60]
def zo68 : List (Nat × Option (Int × Int)) := (42, none) :: zo67
def zs84 : qb_Sh := zs83.set 40 (.inl (5, [some (some 41), some (some 42), some none, some none, none]))
def zs85 : qb_Sh := zs84 ++ [.inr 60]
def zo69 : List (Nat × Option (Int × Int)) := (43, none) :: zo68
def zs86 : qb_Sh := zs85.set 40 (.inl (5, [some (some 41), some (some 42), some (some 43), some none, none]))
def zs87 : qb_Sh := zs86 ++ [.inr 60]
def zo70 : List (Nat × Option (Int × Int)) := (44, none) :: zo69
def zs88 : qb_Sh := zs87.set 40 (.inl (5, [some (some 41), some (some 42), some (some 43), some (some 44), none]))
theorem z9_mX5_init_0 {hp : qb_H} {Q : Option qb_V → qb_H → qb_Sh → Prop} (kk : Q none (zH zo70 hp) zs88) : qb_R mX5_init 0 0 zs80 0 [some (.inr (.inl 40))] [] (zH zo66 hp) Q := by
  refine qb_aloadn dX5_init_0 rfl (i := 0) rfl rfl ?_
  refine qb_obj dX5_init_1 rfl qo_X5_3 (by decide) ?_
  refine qb_aloadn dX5_init_4 rfl (i := 0) rfl rfl ?_
  refine qb_bipush dX5_init_5 rfl (by decide) (by decide) ?_
  refine zw_newa (n := 60) (c := 41) (sh' := zs81) (hp' := zH zo67 hp) (cs' := 1) (ss' := 60) dX5_init_7 rfl rfl (by decide) rfl rfl (by decide +kernel) (by decide +kernel) (by decide) rfl rfl ?_
  refine zw_putr (ci := 5) (k := 0) (c := 40) (b := 41) (sl := [some none, some none, some none, some none, none]) (sh' := zs82) dX5_init_9 rfl qf_X5_9 rfl rfl rfl (fun _ => ⟨rfl, rfl⟩) (by decide +kernel) (by decide) rfl ?_
  refine qb_aloadn dX5_init_12 rfl (i := 0) rfl rfl ?_
  refine qb_bipush dX5_init_13 rfl (by decide) (by decide) ?_
  refine zw_newa (n := 60) (c := 42) (sh' := zs83) (hp' := zH zo68 hp) (cs' := 2) (ss' := 120) dX5_init_15 rfl rfl (by decide) rfl rfl (by decide +kernel) (by decide +kernel) (by decide) rfl rfl ?_
  refine zw_putr (ci := 5) (k := 1) (c := 40) (b := 42) (sl := [some (some 41), some none, some none, some none, none]) (sh' := zs84) dX5_init_17 rfl qf_X5_15 rfl rfl rfl (fun _ => ⟨rfl, rfl⟩) (by decide +kernel) (by decide) rfl ?_
  refine qb_aloadn dX5_init_20 rfl (i := 0) rfl rfl ?_
  refine qb_bipush dX5_init_21 rfl (by decide) (by decide) ?_
  refine zw_newa (n := 60) (c := 43) (sh' := zs85) (hp' := zH zo69 hp) (cs' := 3) (ss' := 180) dX5_init_23 rfl rfl (by decide) rfl rfl (by decide +kernel) (by decide +kernel) (by decide) rfl rfl ?_
  refine zw_putr (ci := 5) (k := 2) (c := 40) (b := 43) (sl := [some (some 41), some (some 42), some none, some none, none]) (sh' := zs86) dX5_init_25 rfl qf_X5_18 rfl rfl rfl (fun _ => ⟨rfl, rfl⟩) (by decide +kernel) (by decide) rfl ?_
  refine qb_aloadn dX5_init_28 rfl (i := 0) rfl rfl ?_
  refine qb_bipush dX5_init_29 rfl (by decide) (by decide) ?_
  refine zw_newa (n := 60) (c := 44) (sh' := zs87) (hp' := zH zo70 hp) (cs' := 4) (ss' := 240) dX5_init_31 rfl rfl (by decide) rfl rfl (by decide +kernel) (by decide +kernel) (by decide) rfl rfl ?_
  refine zw_putr (ci := 5) (k := 3) (c := 40) (b := 44) (sl := [some (some 41), some (some 42), some (some 43), some none, none]) (sh' := zs88) dX5_init_33 rfl qf_X5_21 rfl rfl rfl (fun _ => ⟨rfl, rfl⟩) (by decide +kernel) (by decide) rfl ?_
  exact qb_vret dX5_init_36 rfl (by decide) kk
theorem z9_mX5_init {hp : qb_H} {Q : Option qb_V → qb_H → qb_Sh → Prop} (kk : Q none (zH zo70 hp) zs88) : qb_R mX5_init 0 0 zs80 0 [some (.inr (.inl 40))] [] (zH zo66 hp) Q := z9_mX5_init_0 kk
def zs89 : qb_Sh := zs88.set 0 (.inl (10, [some (some 1), some (some 3), some (some 10), some (some 11), some (some 25), some (some 26), some (some 31), some (some 32), some (some 36), some (some 40), some none, some none, some none]))
def zs90 : qb_Sh := zs89 ++ [.inl (5, [some none, some none, some none, some none, none])]
def zo71 : List (Nat × Option (Int × Int)) := (45, none) :: zo70
theorem z1_mX10_init_9 {hp : qb_H} {Q : Option qb_V → qb_H → qb_Sh → Prop} (kk : qb_R mX10_init 45 1292 zs90 148 [some (.inr (.inl 0))] [.inr (.inl 45), .inr (.inl 45), .inr (.inl 0)] (zH zo71 hp) Q) : qb_R mX10_init 40 1047 zs80 137 [some (.inr (.inl 0))] [.inr (.inl 40), .inr (.inl 40), .inr (.inl 0)] (zH zo66 hp) Q := by
  refine qb_callI dX10_init_137 qe_mX10_init_mX5_init (as := []) (b := 40) rfl rfl rfl (by decide) (by decide) (z9_mX5_init (hp := hp) ?_)
  show qb_R mX10_init 44 1287 zs88 140 [some (.inr (.inl 0))] [.inr (.inl 40), .inr (.inl 0)] (zH zo70 hp) Q
  refine zw_putr (ci := 10) (k := 9) (c := 0) (b := 40) (sl := [some (some 1), some (some 3), some (some 10), some (some 11), some (some 25), some (some 26), some (some 31), some (some 32), some (some 36), some none, some none, some none, some none]) (sh' := zs89) dX10_init_140 rfl qf_X10_68 rfl rfl rfl (fun _ => ⟨rfl, rfl⟩) (by decide +kernel) (by decide) rfl ?_
  refine qb_aloadn dX10_init_143 rfl (i := 0) rfl rfl ?_
  refine zw_new (ci := 5) (c := 45) (ty := tyX5) (sl := [some none, some none, some none, some none, none]) (sh' := zs90) (hp' := zH zo71 hp) (cs' := 45) (ss' := 1292) dX10_init_144 rfl rfl ⟨qn_X10_65, qin_X5, qic_X5⟩ tyX5_ok (by decide +kernel) (by decide +kernel) rfl rfl (by decide +kernel) (by decide +kernel) (by decide) rfl rfl ?_
  refine qb_dup dX10_init_147 rfl rfl ?_
  exact kk
def zs91 : qb_Sh := zs90 ++ [.inr 60]
def zo72 : List (Nat × Option (Int × Int)) := (46, none) :: zo71
def zs92 : qb_Sh := zs91.set 45 (.inl (5, [some (some 46), some none, some none, some none, none]))
def zs93 : qb_Sh := zs92 ++ [.inr 60]
def zo73 : List (Nat × Option (Int × Int)) := (47, none) :: zo72
def zs94 : qb_Sh := zs93.set 45 (.inl (5, [some (some 46), some (some 47), some none, some none, none]))
def zs95 : qb_Sh := zs94 ++ [.inr 60]
def zo74 : List (Nat × Option (Int × Int)) := (48, none) :: zo73
def zs96 : qb_Sh := zs95.set 45 (.inl (5, [some (some 46), some (some 47), some (some 48), some none, none]))
def zs97 : qb_Sh := zs96 ++ [.inr 60]
def zo75 : List (Nat × Option (Int × Int)) := (49, none) :: zo74
def zs98 : qb_Sh := zs97.set 45 (.inl (5, [some (some 46), some (some 47), some (some 48), some (some 49), none]))
theorem z10_mX5_init_0 {hp : qb_H} {Q : Option qb_V → qb_H → qb_Sh → Prop} (kk : Q none (zH zo75 hp) zs98) : qb_R mX5_init 0 0 zs90 0 [some (.inr (.inl 45))] [] (zH zo71 hp) Q := by
  refine qb_aloadn dX5_init_0 rfl (i := 0) rfl rfl ?_
  refine qb_obj dX5_init_1 rfl qo_X5_3 (by decide) ?_
  refine qb_aloadn dX5_init_4 rfl (i := 0) rfl rfl ?_
  refine qb_bipush dX5_init_5 rfl (by decide) (by decide) ?_
  refine zw_newa (n := 60) (c := 46) (sh' := zs91) (hp' := zH zo72 hp) (cs' := 1) (ss' := 60) dX5_init_7 rfl rfl (by decide) rfl rfl (by decide +kernel) (by decide +kernel) (by decide) rfl rfl ?_
  refine zw_putr (ci := 5) (k := 0) (c := 45) (b := 46) (sl := [some none, some none, some none, some none, none]) (sh' := zs92) dX5_init_9 rfl qf_X5_9 rfl rfl rfl (fun _ => ⟨rfl, rfl⟩) (by decide +kernel) (by decide) rfl ?_
  refine qb_aloadn dX5_init_12 rfl (i := 0) rfl rfl ?_
  refine qb_bipush dX5_init_13 rfl (by decide) (by decide) ?_
  refine zw_newa (n := 60) (c := 47) (sh' := zs93) (hp' := zH zo73 hp) (cs' := 2) (ss' := 120) dX5_init_15 rfl rfl (by decide) rfl rfl (by decide +kernel) (by decide +kernel) (by decide) rfl rfl ?_
  refine zw_putr (ci := 5) (k := 1) (c := 45) (b := 47) (sl := [some (some 46), some none, some none, some none, none]) (sh' := zs94) dX5_init_17 rfl qf_X5_15 rfl rfl rfl (fun _ => ⟨rfl, rfl⟩) (by decide +kernel) (by decide) rfl ?_
  refine qb_aloadn dX5_init_20 rfl (i := 0) rfl rfl ?_
  refine qb_bipush dX5_init_21 rfl (by decide) (by decide) ?_
  refine zw_newa (n := 60) (c := 48) (sh' := zs95) (hp' := zH zo74 hp) (cs' := 3) (ss' := 180) dX5_init_23 rfl rfl (by decide) rfl rfl (by decide +kernel) (by decide +kernel) (by decide) rfl rfl ?_
  refine zw_putr (ci := 5) (k := 2) (c := 45) (b := 48) (sl := [some (some 46), some (some 47), some none, some none, none]) (sh' := zs96) dX5_init_25 rfl qf_X5_18 rfl rfl rfl (fun _ => ⟨rfl, rfl⟩) (by decide +kernel) (by decide) rfl ?_
  refine qb_aloadn dX5_init_28 rfl (i := 0) rfl rfl ?_
  refine qb_bipush dX5_init_29 rfl (by decide) (by decide) ?_
  refine zw_newa (n := 60) (c := 49) (sh' := zs97) (hp' := zH zo75 hp) (cs' := 4) (ss' := 240) dX5_init_31 rfl rfl (by decide) rfl rfl (by decide +kernel) (by decide +kernel) (by decide) rfl rfl ?_
  refine zw_putr (ci := 5) (k := 3) (c := 45) (b := 49) (sl := [some (some 46), some (some 47), some (some 48), some none, none]) (sh' := zs98) dX5_init_33 rfl qf_X5_21 rfl rfl rfl (fun _ => ⟨rfl, rfl⟩) (by decide +kernel) (by decide) rfl ?_
  exact qb_vret dX5_init_36 rfl (by decide) kk
theorem z10_mX5_init {hp : qb_H} {Q : Option qb_V → qb_H → qb_Sh → Prop} (kk : Q none (zH zo75 hp) zs98) : qb_R mX5_init 0 0 zs90 0 [some (.inr (.inl 45))] [] (zH zo71 hp) Q := z10_mX5_init_0 kk
def zs99 : qb_Sh := zs98.set 0 (.inl (10, [some (some 1), some (some 3), some (some 10), some (some 11), some (some 25), some (some 26), some (some 31), some (some 32), some (some 36), some (some 40), some (some 45), some none, some none]))
def zs100 : qb_Sh := zs99 ++ [.inl (9, [some none, some none, some none, none, none, none])]
def zo76 : List (Nat × Option (Int × Int)) := (50, none) :: zo75
theorem z1_mX10_init_10 {hp : qb_H} {Q : Option qb_V → qb_H → qb_Sh → Prop} (kk : qb_R mX10_init 50 1538 zs100 159 [some (.inr (.inl 0))] [.inr (.inl 50), .inr (.inl 50), .inr (.inl 0)] (zH zo76 hp) Q) : qb_R mX10_init 45 1292 zs90 148 [some (.inr (.inl 0))] [.inr (.inl 45), .inr (.inl 45), .inr (.inl 0)] (zH zo71 hp) Q := by
  refine qb_callI dX10_init_148 qe_mX10_init_mX5_init (as := []) (b := 45) rfl rfl rfl (by decide) (by decide) (z10_mX5_init (hp := hp) ?_)
  show qb_R mX10_init 49 1532 zs98 151 [some (.inr (.inl 0))] [.inr (.inl 45), .inr (.inl 0)] (zH zo75 hp) Q
  refine zw_putr (ci := 10) (k := 10) (c := 0) (b := 45) (sl := [some (some 1), some (some 3), some (some 10), some (some 11), some (some 25), some (some 26), some (some 31), some (some 32), some (some 36), some (some 40), some none, some none, some none]) (sh' := zs99) dX10_init_151 rfl qf_X10_72 rfl rfl rfl (fun _ => ⟨rfl, rfl⟩) (by decide +kernel) (by decide) rfl ?_
  refine qb_aloadn dX10_init_154 rfl (i := 0) rfl rfl ?_
  refine zw_new (ci := 9) (c := 50) (ty := tyX9) (sl := [some none, some none, some none, none, none, none]) (sh' := zs100) (hp' := zH zo76 hp) (cs' := 50) (ss' := 1538) dX10_init_155 rfl rfl ⟨qn_X10_75, qin_X9, qic_X9⟩ tyX9_ok (by decide +kernel) (by decide +kernel) rfl rfl (by decide +kernel) (by decide +kernel) (by decide) rfl rfl ?_
  refine qb_dup dX10_init_158 rfl rfl ?_
  exact kk
def zs101 : qb_Sh := zs100 ++ [.inr 30]
def zo77 : List (Nat × Option (Int × Int)) := (51, none) :: zo76
def zs102 : qb_Sh := zs101.set 50 (.inl (9, [some (some 51), some none, some none, none, none, none]))
def zs103 : qb_Sh := zs102 ++ [.inr 5]
def zo78 : List (Nat × Option (Int × Int)) := (52, none) :: zo77
def zs104 : qb_Sh := zs103.set 50 (.inl (9, [some (some 51), some (some 52), some none, none, none, none]))
def zs105 : qb_Sh := zs104 ++ [.inr 128]
def zo79 : List (Nat × Option (Int × Int)) := (53, none) :: zo78
def zs106 : qb_Sh := zs105.set 50 (.inl (9, [some (some 51), some (some 52), some (some 53), none, none, none]))
theorem z11_mX9_init_0 {hp : qb_H} {Q : Option qb_V → qb_H → qb_Sh → Prop} (kk : Q none (zH zo79 hp) zs106) : qb_R mX9_init 0 0 zs100 0 [some (.inr (.inl 50))] [] (zH zo76 hp) Q := by
  refine qb_aloadn dX9_init_0 rfl (i := 0) rfl rfl ?_
  refine qb_obj dX9_init_1 rfl qo_X9_3 (by decide) ?_
  refine qb_aloadn dX9_init_4 rfl (i := 0) rfl rfl ?_
  refine qb_bipush dX9_init_5 rfl (by decide) (by decide) ?_
  refine zw_newa (n := 30) (c := 51) (sh' := zs101) (hp' := zH zo77 hp) (cs' := 1) (ss' := 30) dX9_init_7 rfl rfl (by decide) rfl rfl (by decide +kernel) (by decide +kernel) (by decide) rfl rfl ?_
  refine zw_putr (ci := 9) (k := 0) (c := 50) (b := 51) (sl := [some none, some none, some none, none, none, none]) (sh' := zs102) dX9_init_9 rfl qf_X9_9 rfl rfl rfl (fun _ => ⟨rfl, rfl⟩) (by decide +kernel) (by decide) rfl ?_
  refine qb_aloadn dX9_init_12 rfl (i := 0) rfl rfl ?_
  refine qb_iconst dX9_init_13 rfl (by decide) ?_
  refine zw_newa (n := 5) (c := 52) (sh' := zs103) (hp' := zH zo78 hp) (cs' := 2) (ss' := 35) dX9_init_14 rfl rfl (by decide) rfl rfl (by decide +kernel) (by decide +kernel) (by decide) rfl rfl ?_
  refine zw_putr (ci := 9) (k := 1) (c := 50) (b := 52) (sl := [some (some 51), some none, some none, none, none, none]) (sh' := zs104) dX9_init_16 rfl qf_X9_15 rfl rfl rfl (fun _ => ⟨rfl, rfl⟩) (by decide +kernel) (by decide) rfl ?_
  refine qb_aloadn dX9_init_19 rfl (i := 0) rfl rfl ?_
  refine qb_sipush dX9_init_20 rfl (by decide) (by decide) ?_
  refine zw_newa (n := 128) (c := 53) (sh' := zs105) (hp' := zH zo79 hp) (cs' := 3) (ss' := 163) dX9_init_23 rfl rfl (by decide) rfl rfl (by decide +kernel) (by decide +kernel) (by decide) rfl rfl ?_
  refine zw_putr (ci := 9) (k := 2) (c := 50) (b := 53) (sl := [some (some 51), some (some 52), some none, none, none, none]) (sh' := zs106) dX9_init_25 rfl qf_X9_18 rfl rfl rfl (fun _ => ⟨rfl, rfl⟩) (by decide +kernel) (by decide) rfl ?_
  exact qb_vret dX9_init_28 rfl (by decide) kk
theorem z11_mX9_init {hp : qb_H} {Q : Option qb_V → qb_H → qb_Sh → Prop} (kk : Q none (zH zo79 hp) zs106) : qb_R mX9_init 0 0 zs100 0 [some (.inr (.inl 50))] [] (zH zo76 hp) Q := z11_mX9_init_0 kk
def zs107 : qb_Sh := zs106.set 0 (.inl (10, [some (some 1), some (some 3), some (some 10), some (some 11), some (some 25), some (some 26), some (some 31), some (some 32), some (some 36), some (some 40), some (some 45), some (some 50), some none]))
def zs108 : qb_Sh := zs107 ++ [.inl (4, [some none, some none, some none, some none, some none])]
def zo80 : List (Nat × Option (Int × Int)) := (54, none) :: zo79
theorem z1_mX10_init_11 {hp : qb_H} {Q : Option qb_V → qb_H → qb_Sh → Prop} (kk : qb_R mX10_init 54 1706 zs108 170 [some (.inr (.inl 0))] [.inr (.inl 54), .inr (.inl 54), .inr (.inl 0)] (zH zo80 hp) Q) : qb_R mX10_init 50 1538 zs100 159 [some (.inr (.inl 0))] [.inr (.inl 50), .inr (.inl 50), .inr (.inl 0)] (zH zo76 hp) Q := by
  refine qb_callI dX10_init_159 qe_mX10_init_mX9_init (as := []) (b := 50) rfl rfl rfl (by decide) (by decide) (z11_mX9_init (hp := hp) ?_)
  show qb_R mX10_init 53 1701 zs106 162 [some (.inr (.inl 0))] [.inr (.inl 50), .inr (.inl 0)] (zH zo79 hp) Q
  refine zw_putr (ci := 10) (k := 11) (c := 0) (b := 50) (sl := [some (some 1), some (some 3), some (some 10), some (some 11), some (some 25), some (some 26), some (some 31), some (some 32), some (some 36), some (some 40), some (some 45), some none, some none]) (sh' := zs107) dX10_init_162 rfl qf_X10_78 rfl rfl rfl (fun _ => ⟨rfl, rfl⟩) (by decide +kernel) (by decide) rfl ?_
  refine qb_aloadn dX10_init_165 rfl (i := 0) rfl rfl ?_
  refine zw_new (ci := 4) (c := 54) (ty := tyX4) (sl := [some none, some none, some none, some none, some none]) (sh' := zs108) (hp' := zH zo80 hp) (cs' := 54) (ss' := 1706) dX10_init_166 rfl rfl ⟨qn_X10_82, qin_X4, qic_X4⟩ tyX4_ok (by decide +kernel) (by decide +kernel) rfl rfl (by decide +kernel) (by decide +kernel) (by decide) rfl rfl ?_
  refine qb_dup dX10_init_169 rfl rfl ?_
  exact kk
def zs109 : qb_Sh := zs108 ++ [.inr 4]
def zo81 : List (Nat × Option (Int × Int)) := (55, none) :: zo80
def zs110 : qb_Sh := zs109.set 54 (.inl (4, [some (some 55), some none, some none, some none, some none]))
def zs111 : qb_Sh := zs110 ++ [.inr 4]
def zo82 : List (Nat × Option (Int × Int)) := (56, none) :: zo81
def zs112 : qb_Sh := zs111.set 54 (.inl (4, [some (some 55), some (some 56), some none, some none, some none]))
def zs113 : qb_Sh := zs112 ++ [.inr 4]
def zo83 : List (Nat × Option (Int × Int)) := (57, none) :: zo82
def zs114 : qb_Sh := zs113.set 54 (.inl (4, [some (some 55), some (some 56), some (some 57), some none, some none]))
def zs115 : qb_Sh := zs114 ++ [.inr 4]
def zo84 : List (Nat × Option (Int × Int)) := (58, none) :: zo83
def zs116 : qb_Sh := zs115.set 54 (.inl (4, [some (some 55), some (some 56), some (some 57), some (some 58), some none]))
def zs117 : qb_Sh := zs116 ++ [.inr 2205]
def zo85 : List (Nat × Option (Int × Int)) := (59, none) :: zo84
def zs118 : qb_Sh := zs117.set 54 (.inl (4, [some (some 55), some (some 56), some (some 57), some (some 58), some (some 59)]))
theorem z12_mX4_init_0 {hp : qb_H} {Q : Option qb_V → qb_H → qb_Sh → Prop} (kk : Q none (zH zo85 hp) zs118) : qb_R mX4_init 0 0 zs108 0 [some (.inr (.inl 54))] [] (zH zo80 hp) Q := by
  refine qb_aloadn dX4_init_0 rfl (i := 0) rfl rfl ?_
  refine qb_obj dX4_init_1 rfl qo_X4_5 (by decide) ?_
  refine qb_aloadn dX4_init_4 rfl (i := 0) rfl rfl ?_
  refine qb_iconst dX4_init_5 rfl (by decide) ?_
  refine zw_newa (n := 4) (c := 55) (sh' := zs109) (hp' := zH zo81 hp) (cs' := 1) (ss' := 4) dX4_init_6 rfl rfl (by decide) rfl rfl (by decide +kernel) (by decide +kernel) (by decide) rfl rfl ?_
  refine zw_putr (ci := 4) (k := 0) (c := 54) (b := 55) (sl := [some none, some none, some none, some none, some none]) (sh' := zs110) dX4_init_8 rfl qf_X4_11 rfl rfl rfl (fun _ => ⟨rfl, rfl⟩) (by decide +kernel) (by decide) rfl ?_
  refine qb_aloadn dX4_init_11 rfl (i := 0) rfl rfl ?_
  refine qb_iconst dX4_init_12 rfl (by decide) ?_
  refine zw_newa (n := 4) (c := 56) (sh' := zs111) (hp' := zH zo82 hp) (cs' := 2) (ss' := 8) dX4_init_13 rfl rfl (by decide) rfl rfl (by decide +kernel) (by decide +kernel) (by decide) rfl rfl ?_
  refine zw_putr (ci := 4) (k := 1) (c := 54) (b := 56) (sl := [some (some 55), some none, some none, some none, some none]) (sh' := zs112) dX4_init_15 rfl qf_X4_15 rfl rfl rfl (fun _ => ⟨rfl, rfl⟩) (by decide +kernel) (by decide) rfl ?_
  refine qb_aloadn dX4_init_18 rfl (i := 0) rfl rfl ?_
  refine qb_iconst dX4_init_19 rfl (by decide) ?_
  refine zw_newa (n := 4) (c := 57) (sh' := zs113) (hp' := zH zo83 hp) (cs' := 3) (ss' := 12) dX4_init_20 rfl rfl (by decide) rfl rfl (by decide +kernel) (by decide +kernel) (by decide) rfl rfl ?_
  refine zw_putr (ci := 4) (k := 2) (c := 54) (b := 57) (sl := [some (some 55), some (some 56), some none, some none, some none]) (sh' := zs114) dX4_init_22 rfl qf_X4_18 rfl rfl rfl (fun _ => ⟨rfl, rfl⟩) (by decide +kernel) (by decide) rfl ?_
  refine qb_aloadn dX4_init_25 rfl (i := 0) rfl rfl ?_
  refine qb_iconst dX4_init_26 rfl (by decide) ?_
  refine zw_newa (n := 4) (c := 58) (sh' := zs115) (hp' := zH zo84 hp) (cs' := 4) (ss' := 16) dX4_init_27 rfl rfl (by decide) rfl rfl (by decide +kernel) (by decide +kernel) (by decide) rfl rfl ?_
  refine zw_putr (ci := 4) (k := 3) (c := 54) (b := 58) (sl := [some (some 55), some (some 56), some (some 57), some none, some none]) (sh' := zs116) dX4_init_29 rfl qf_X4_21 rfl rfl rfl (fun _ => ⟨rfl, rfl⟩) (by decide +kernel) (by decide) rfl ?_
  refine qb_aloadn dX4_init_32 rfl (i := 0) rfl rfl ?_
  refine qb_sipush dX4_init_33 rfl (by decide) (by decide) ?_
  refine zw_newa (n := 2205) (c := 59) (sh' := zs117) (hp' := zH zo85 hp) (cs' := 5) (ss' := 2221) dX4_init_36 rfl rfl (by decide) rfl rfl (by decide +kernel) (by decide +kernel) (by decide) rfl rfl ?_
  refine zw_putr (ci := 4) (k := 4) (c := 54) (b := 59) (sl := [some (some 55), some (some 56), some (some 57), some (some 58), some none]) (sh' := zs118) dX4_init_38 rfl qf_X4_24 rfl rfl rfl (fun _ => ⟨rfl, rfl⟩) (by decide +kernel) (by decide) rfl ?_
  exact qb_vret dX4_init_41 rfl (by decide) kk
theorem z12_mX4_init {hp : qb_H} {Q : Option qb_V → qb_H → qb_Sh → Prop} (kk : Q none (zH zo85 hp) zs118) : qb_R mX4_init 0 0 zs108 0 [some (.inr (.inl 54))] [] (zH zo80 hp) Q := z12_mX4_init_0 kk
def zs119 : qb_Sh := zs118.set 0 (.inl (10, [some (some 1), some (some 3), some (some 10), some (some 11), some (some 25), some (some 26), some (some 31), some (some 32), some (some 36), some (some 40), some (some 45), some (some 50), some (some 54)]))
theorem z1_mX10_init_12 {hp : qb_H} {Q : Option qb_V → qb_H → qb_Sh → Prop} (kk : Q none (zH zo85 hp) zs119) : qb_R mX10_init 54 1706 zs108 170 [some (.inr (.inl 0))] [.inr (.inl 54), .inr (.inl 54), .inr (.inl 0)] (zH zo80 hp) Q := by
  refine qb_callI dX10_init_170 qe_mX10_init_mX4_init (as := []) (b := 54) rfl rfl rfl (by decide) (by decide) (z12_mX4_init (hp := hp) ?_)
  show qb_R mX10_init 59 3927 zs118 173 [some (.inr (.inl 0))] [.inr (.inl 54), .inr (.inl 0)] (zH zo85 hp) Q
  refine zw_putr (ci := 10) (k := 12) (c := 0) (b := 54) (sl := [some (some 1), some (some 3), some (some 10), some (some 11), some (some 25), some (some 26), some (some 31), some (some 32), some (some 36), some (some 40), some (some 45), some (some 50), some none]) (sh' := zs119) dX10_init_173 rfl qf_X10_85 rfl rfl rfl (fun _ => ⟨rfl, rfl⟩) (by decide +kernel) (by decide) rfl ?_
  exact qb_vret dX10_init_176 rfl (by decide) kk
theorem z1_mX10_init {hp : qb_H} {Q : Option qb_V → qb_H → qb_Sh → Prop} (kk : Q none (zH zo85 hp) zs119) : qb_R mX10_init 0 0 zs1 0 [some (.inr (.inl 0))] [] (zH zo1 hp) Q := z1_mX10_init_0 (z1_mX10_init_1 (z1_mX10_init_2 (z1_mX10_init_3 (z1_mX10_init_4 (z1_mX10_init_5 (z1_mX10_init_6 (z1_mX10_init_7 (z1_mX10_init_8 (z1_mX10_init_9 (z1_mX10_init_10 (z1_mX10_init_11 (z1_mX10_init_12 kk))))))))))))
def zs120 : qb_Sh := zs119 ++ [.inl (11, [none, some none, none, some none, some none, some none, some none, some none, some none, none, some none, none, some none, none, some none, some none, some none, some none, none, some none, some none, some none, some none, some none, none, some none, some none, some none, some none, none, none, none, none, none, some none, some none, some none, some none, none, none, none, none, none, none, none, none, none, none, some none, some none])]
def zo86 : List (Nat × Option (Int × Int)) := (60, none) :: zo85
theorem z0_mL_law_1 {hp : qb_H} {Q : Option qb_V → qb_H → qb_Sh → Prop} (kk : qb_R mL_law 61 3990 zs120 12 [some (.inr (.inl 1002)), some (.inr (.inl 0)), none, none] [.inr (.inl 60), .inr (.inl 60)] (zH zo86 hp) Q) : qb_R mL_law 1 13 zs1 4 [some (.inr (.inl 1002)), none, none, none] [.inr (.inl 0), .inr (.inl 0)] (zH zo1 hp) Q := by
  refine qb_callI dL_law_4 qe_mL_law_mX10_init (as := []) (b := 0) rfl rfl rfl (by decide) (by decide) (z1_mX10_init (hp := hp) ?_)
  show qb_R mL_law 60 3940 zs119 7 [some (.inr (.inl 1002)), none, none, none] [.inr (.inl 0)] (zH zo85 hp) Q
  refine qb_astoren dL_law_7 rfl (i := 1) rfl (by decide) rfl rfl ?_
  refine zw_new (ci := 11) (c := 60) (ty := tyX11) (sl := [none, some none, none, some none, some none, some none, some none, some none, some none, none, some none, none, some none, none, some none, some none, some none, some none, none, some none, some none, some none, some none, some none, none, some none, some none, some none, some none, none, none, none, none, none, some none, some none, some none, some none, none, none, none, none, none, none, none, none, none, none, some none, some none]) (sh' := zs120) (hp' := zH zo86 hp) (cs' := 61) (ss' := 3990) dL_law_8 rfl rfl ⟨qn_L_10, qin_X11, qic_X11⟩ tyX11_ok (by decide +kernel) (by decide +kernel) rfl rfl (by decide +kernel) (by decide +kernel) (by decide) rfl rfl ?_
  refine qb_dup dL_law_11 rfl rfl ?_
  exact kk
def zs121 : qb_Sh := zs120 ++ [.inr 60]
def zo87 : List (Nat × Option (Int × Int)) := (61, none) :: zo86
def zs122 : qb_Sh := zs121.set 60 (.inl (11, [none, some (some 61), none, some none, some none, some none, some none, some none, some none, none, some none, none, some none, none, some none, some none, some none, some none, none, some none, some none, some none, some none, some none, none, some none, some none, some none, some none, none, none, none, none, none, some none, some none, some none, some none, none, none, none, none, none, none, none, none, none, none, some none, some none]))
def zs123 : qb_Sh := zs122 ++ [.inr 8]
def zo88 : List (Nat × Option (Int × Int)) := (62, none) :: zo87
def zs124 : qb_Sh := zs123.set 60 (.inl (11, [none, some (some 61), none, some (some 62), some none, some none, some none, some none, some none, none, some none, none, some none, none, some none, some none, some none, some none, none, some none, some none, some none, some none, some none, none, some none, some none, some none, some none, none, none, none, none, none, some none, some none, some none, some none, none, none, none, none, none, none, none, none, none, none, some none, some none]))
def zs125 : qb_Sh := zs124 ++ [.inr 8]
def zo89 : List (Nat × Option (Int × Int)) := (63, none) :: zo88
def zs126 : qb_Sh := zs125.set 60 (.inl (11, [none, some (some 61), none, some (some 62), some (some 63), some none, some none, some none, some none, none, some none, none, some none, none, some none, some none, some none, some none, none, some none, some none, some none, some none, some none, none, some none, some none, some none, some none, none, none, none, none, none, some none, some none, some none, some none, none, none, none, none, none, none, none, none, none, none, some none, some none]))
def zs127 : qb_Sh := zs126 ++ [.inr 480]
def zo90 : List (Nat × Option (Int × Int)) := (64, none) :: zo89
def zs128 : qb_Sh := zs127.set 60 (.inl (11, [none, some (some 61), none, some (some 62), some (some 63), some (some 64), some none, some none, some none, none, some none, none, some none, none, some none, some none, some none, some none, none, some none, some none, some none, some none, some none, none, some none, some none, some none, some none, none, none, none, none, none, some none, some none, some none, some none, none, none, none, none, none, none, none, none, none, none, some none, some none]))
def zs129 : qb_Sh := zs128 ++ [.inr 4]
def zo91 : List (Nat × Option (Int × Int)) := (65, none) :: zo90
def zs130 : qb_Sh := zs129.set 60 (.inl (11, [none, some (some 61), none, some (some 62), some (some 63), some (some 64), some (some 65), some none, some none, none, some none, none, some none, none, some none, some none, some none, some none, none, some none, some none, some none, some none, some none, none, some none, some none, some none, some none, none, none, none, none, none, some none, some none, some none, some none, none, none, none, none, none, none, none, none, none, none, some none, some none]))
theorem z13_mX11_init_0 {hp : qb_H} {Q : Option qb_V → qb_H → qb_Sh → Prop} (kk : qb_R mX11_init 5 560 zs130 46 [some (.inr (.inl 60)), none] [.inl 4, .inr (.inl 60)] (zH zo91 hp) Q) : qb_R mX11_init 0 0 zs120 0 [some (.inr (.inl 60)), none] [] (zH zo86 hp) Q := by
  refine qb_aloadn dX11_init_0 rfl (i := 0) rfl rfl ?_
  refine qb_obj dX11_init_1 rfl qo_X11_1 (by decide) ?_
  refine qb_aloadn dX11_init_4 rfl (i := 0) rfl rfl ?_
  refine qb_bipush dX11_init_5 rfl (by decide) (by decide) ?_
  refine zw_newa (n := 60) (c := 61) (sh' := zs121) (hp' := zH zo87 hp) (cs' := 1) (ss' := 60) dX11_init_7 rfl rfl (by decide) rfl rfl (by decide +kernel) (by decide +kernel) (by decide) rfl rfl ?_
  refine zw_putr (ci := 11) (k := 1) (c := 60) (b := 61) (sl := [none, some none, none, some none, some none, some none, some none, some none, some none, none, some none, none, some none, none, some none, some none, some none, some none, none, some none, some none, some none, some none, some none, none, some none, some none, some none, some none, none, none, none, none, none, some none, some none, some none, some none, none, none, none, none, none, none, none, none, none, none, some none, some none]) (sh' := zs122) dX11_init_9 rfl qf_X11_7 rfl rfl rfl (fun _ => ⟨rfl, rfl⟩) (by decide +kernel) (by decide) rfl ?_
  refine qb_aloadn dX11_init_12 rfl (i := 0) rfl rfl ?_
  refine qb_bipush dX11_init_13 rfl (by decide) (by decide) ?_
  refine zw_newa (n := 8) (c := 62) (sh' := zs123) (hp' := zH zo88 hp) (cs' := 2) (ss' := 68) dX11_init_15 rfl rfl (by decide) rfl rfl (by decide +kernel) (by decide +kernel) (by decide) rfl rfl ?_
  refine zw_putr (ci := 11) (k := 3) (c := 60) (b := 62) (sl := [none, some (some 61), none, some none, some none, some none, some none, some none, some none, none, some none, none, some none, none, some none, some none, some none, some none, none, some none, some none, some none, some none, some none, none, some none, some none, some none, some none, none, none, none, none, none, some none, some none, some none, some none, none, none, none, none, none, none, none, none, none, none, some none, some none]) (sh' := zs124) dX11_init_17 rfl qf_X11_13 rfl rfl rfl (fun _ => ⟨rfl, rfl⟩) (by decide +kernel) (by decide) rfl ?_
  refine qb_aloadn dX11_init_20 rfl (i := 0) rfl rfl ?_
  refine qb_bipush dX11_init_21 rfl (by decide) (by decide) ?_
  refine zw_newa (n := 8) (c := 63) (sh' := zs125) (hp' := zH zo89 hp) (cs' := 3) (ss' := 76) dX11_init_23 rfl rfl (by decide) rfl rfl (by decide +kernel) (by decide +kernel) (by decide) rfl rfl ?_
  refine zw_putr (ci := 11) (k := 4) (c := 60) (b := 63) (sl := [none, some (some 61), none, some (some 62), some none, some none, some none, some none, some none, none, some none, none, some none, none, some none, some none, some none, some none, none, some none, some none, some none, some none, some none, none, some none, some none, some none, some none, none, none, none, none, none, some none, some none, some none, some none, none, none, none, none, none, none, none, none, none, none, some none, some none]) (sh' := zs126) dX11_init_25 rfl qf_X11_16 rfl rfl rfl (fun _ => ⟨rfl, rfl⟩) (by decide +kernel) (by decide) rfl ?_
  refine qb_aloadn dX11_init_28 rfl (i := 0) rfl rfl ?_
  refine qb_sipush dX11_init_29 rfl (by decide) (by decide) ?_
  refine zw_newa (n := 480) (c := 64) (sh' := zs127) (hp' := zH zo90 hp) (cs' := 4) (ss' := 556) dX11_init_32 rfl rfl (by decide) rfl rfl (by decide +kernel) (by decide +kernel) (by decide) rfl rfl ?_
  refine zw_putr (ci := 11) (k := 5) (c := 60) (b := 64) (sl := [none, some (some 61), none, some (some 62), some (some 63), some none, some none, some none, some none, none, some none, none, some none, none, some none, some none, some none, some none, none, some none, some none, some none, some none, some none, none, some none, some none, some none, some none, none, none, none, none, none, some none, some none, some none, some none, none, none, none, none, none, none, none, none, none, none, some none, some none]) (sh' := zs128) dX11_init_34 rfl qf_X11_19 rfl rfl rfl (fun _ => ⟨rfl, rfl⟩) (by decide +kernel) (by decide) rfl ?_
  refine qb_aloadn dX11_init_37 rfl (i := 0) rfl rfl ?_
  refine qb_iconst dX11_init_38 rfl (by decide) ?_
  refine zw_newa (n := 4) (c := 65) (sh' := zs129) (hp' := zH zo91 hp) (cs' := 5) (ss' := 560) dX11_init_39 rfl rfl (by decide) rfl rfl (by decide +kernel) (by decide +kernel) (by decide) rfl rfl ?_
  refine zw_putr (ci := 11) (k := 6) (c := 60) (b := 65) (sl := [none, some (some 61), none, some (some 62), some (some 63), some (some 64), some none, some none, some none, none, some none, none, some none, none, some none, some none, some none, some none, none, some none, some none, some none, some none, some none, none, some none, some none, some none, some none, none, none, none, none, none, some none, some none, some none, some none, none, none, none, none, none, none, none, none, none, none, some none, some none]) (sh' := zs130) dX11_init_41 rfl qf_X11_22 rfl rfl rfl (fun _ => ⟨rfl, rfl⟩) (by decide +kernel) (by decide) rfl ?_
  refine qb_aloadn dX11_init_44 rfl (i := 0) rfl rfl ?_
  refine qb_iconst dX11_init_45 rfl (by decide) ?_
  exact kk
def zs131 : qb_Sh := zs130 ++ [.inr 4]
def zo92 : List (Nat × Option (Int × Int)) := (66, none) :: zo91
def zs132 : qb_Sh := zs131.set 60 (.inl (11, [none, some (some 61), none, some (some 62), some (some 63), some (some 64), some (some 65), some (some 66), some none, none, some none, none, some none, none, some none, some none, some none, some none, none, some none, some none, some none, some none, some none, none, some none, some none, some none, some none, none, none, none, none, none, some none, some none, some none, some none, none, none, none, none, none, none, none, none, none, none, some none, some none]))
def zs133 : qb_Sh := zs132 ++ [.inr 7]
def zo93 : List (Nat × Option (Int × Int)) := (67, none) :: zo92
def zs134 : qb_Sh := zs133.set 60 (.inl (11, [none, some (some 61), none, some (some 62), some (some 63), some (some 64), some (some 65), some (some 66), some (some 67), none, some none, none, some none, none, some none, some none, some none, some none, none, some none, some none, some none, some none, some none, none, some none, some none, some none, some none, none, none, none, none, none, some none, some none, some none, some none, none, none, none, none, none, none, none, none, none, none, some none, some none]))
def zs135 : qb_Sh := zs134 ++ [.inr 210]
def zo94 : List (Nat × Option (Int × Int)) := (68, none) :: zo93
def zs136 : qb_Sh := zs135.set 60 (.inl (11, [none, some (some 61), none, some (some 62), some (some 63), some (some 64), some (some 65), some (some 66), some (some 67), none, some (some 68), none, some none, none, some none, some none, some none, some none, none, some none, some none, some none, some none, some none, none, some none, some none, some none, some none, none, none, none, none, none, some none, some none, some none, some none, none, none, none, none, none, none, none, none, none, none, some none, some none]))
def zs137 : qb_Sh := zs136 ++ [.inr 48]
def zo95 : List (Nat × Option (Int × Int)) := (69, none) :: zo94
def zs138 : qb_Sh := zs137.set 60 (.inl (11, [none, some (some 61), none, some (some 62), some (some 63), some (some 64), some (some 65), some (some 66), some (some 67), none, some (some 68), none, some (some 69), none, some none, some none, some none, some none, none, some none, some none, some none, some none, some none, none, some none, some none, some none, some none, none, none, none, none, none, some none, some none, some none, some none, none, none, none, none, none, none, none, none, none, none, some none, some none]))
def zs139 : qb_Sh := zs138 ++ [.inr 96]
def zo96 : List (Nat × Option (Int × Int)) := (70, none) :: zo95
def zs140 : qb_Sh := zs139.set 60 (.inl (11, [none, some (some 61), none, some (some 62), some (some 63), some (some 64), some (some 65), some (some 66), some (some 67), none, some (some 68), none, some (some 69), none, some (some 70), some none, some none, some none, none, some none, some none, some none, some none, some none, none, some none, some none, some none, some none, none, none, none, none, none, some none, some none, some none, some none, none, none, none, none, none, none, none, none, none, none, some none, some none]))
def zs141 : qb_Sh := zs140 ++ [.inr 10]
def zo97 : List (Nat × Option (Int × Int)) := (71, none) :: zo96
def zs142 : qb_Sh := zs141.set 60 (.inl (11, [none, some (some 61), none, some (some 62), some (some 63), some (some 64), some (some 65), some (some 66), some (some 67), none, some (some 68), none, some (some 69), none, some (some 70), some (some 71), some none, some none, none, some none, some none, some none, some none, some none, none, some none, some none, some none, some none, none, none, none, none, none, some none, some none, some none, some none, none, none, none, none, none, none, none, none, none, none, some none, some none]))
theorem z13_mX11_init_1 {hp : qb_H} {Q : Option qb_V → qb_H → qb_Sh → Prop} (kk : qb_R mX11_init 11 935 zs142 95 [some (.inr (.inl 60)), none] [.inl 10, .inr (.inl 60)] (zH zo97 hp) Q) : qb_R mX11_init 5 560 zs130 46 [some (.inr (.inl 60)), none] [.inl 4, .inr (.inl 60)] (zH zo91 hp) Q := by
  refine zw_newa (n := 4) (c := 66) (sh' := zs131) (hp' := zH zo92 hp) (cs' := 6) (ss' := 564) dX11_init_46 rfl rfl (by decide) rfl rfl (by decide +kernel) (by decide +kernel) (by decide) rfl rfl ?_
  refine zw_putr (ci := 11) (k := 7) (c := 60) (b := 66) (sl := [none, some (some 61), none, some (some 62), some (some 63), some (some 64), some (some 65), some none, some none, none, some none, none, some none, none, some none, some none, some none, some none, none, some none, some none, some none, some none, some none, none, some none, some none, some none, some none, none, none, none, none, none, some none, some none, some none, some none, none, none, none, none, none, none, none, none, none, none, some none, some none]) (sh' := zs132) dX11_init_48 rfl qf_X11_25 rfl rfl rfl (fun _ => ⟨rfl, rfl⟩) (by decide +kernel) (by decide) rfl ?_
  refine qb_aloadn dX11_init_51 rfl (i := 0) rfl rfl ?_
  refine qb_bipush dX11_init_52 rfl (by decide) (by decide) ?_
  refine zw_newa (n := 7) (c := 67) (sh' := zs133) (hp' := zH zo93 hp) (cs' := 7) (ss' := 571) dX11_init_54 rfl rfl (by decide) rfl rfl (by decide +kernel) (by decide +kernel) (by decide) rfl rfl ?_
  refine zw_putr (ci := 11) (k := 8) (c := 60) (b := 67) (sl := [none, some (some 61), none, some (some 62), some (some 63), some (some 64), some (some 65), some (some 66), some none, none, some none, none, some none, none, some none, some none, some none, some none, none, some none, some none, some none, some none, some none, none, some none, some none, some none, some none, none, none, none, none, none, some none, some none, some none, some none, none, none, none, none, none, none, none, none, none, none, some none, some none]) (sh' := zs134) dX11_init_56 rfl qf_X11_28 rfl rfl rfl (fun _ => ⟨rfl, rfl⟩) (by decide +kernel) (by decide) rfl ?_
  refine qb_aloadn dX11_init_59 rfl (i := 0) rfl rfl ?_
  refine qb_sipush dX11_init_60 rfl (by decide) (by decide) ?_
  refine zw_newa (n := 210) (c := 68) (sh' := zs135) (hp' := zH zo94 hp) (cs' := 8) (ss' := 781) dX11_init_63 rfl rfl (by decide) rfl rfl (by decide +kernel) (by decide +kernel) (by decide) rfl rfl ?_
  refine zw_putr (ci := 11) (k := 10) (c := 60) (b := 68) (sl := [none, some (some 61), none, some (some 62), some (some 63), some (some 64), some (some 65), some (some 66), some (some 67), none, some none, none, some none, none, some none, some none, some none, some none, none, some none, some none, some none, some none, some none, none, some none, some none, some none, some none, none, none, none, none, none, some none, some none, some none, some none, none, none, none, none, none, none, none, none, none, none, some none, some none]) (sh' := zs136) dX11_init_65 rfl qf_X11_31 rfl rfl rfl (fun _ => ⟨rfl, rfl⟩) (by decide +kernel) (by decide) rfl ?_
  refine qb_aloadn dX11_init_68 rfl (i := 0) rfl rfl ?_
  refine qb_bipush dX11_init_69 rfl (by decide) (by decide) ?_
  refine zw_newa (n := 48) (c := 69) (sh' := zs137) (hp' := zH zo95 hp) (cs' := 9) (ss' := 829) dX11_init_71 rfl rfl (by decide) rfl rfl (by decide +kernel) (by decide +kernel) (by decide) rfl rfl ?_
  refine zw_putr (ci := 11) (k := 12) (c := 60) (b := 69) (sl := [none, some (some 61), none, some (some 62), some (some 63), some (some 64), some (some 65), some (some 66), some (some 67), none, some (some 68), none, some none, none, some none, some none, some none, some none, none, some none, some none, some none, some none, some none, none, some none, some none, some none, some none, none, none, none, none, none, some none, some none, some none, some none, none, none, none, none, none, none, none, none, none, none, some none, some none]) (sh' := zs138) dX11_init_73 rfl qf_X11_34 rfl rfl rfl (fun _ => ⟨rfl, rfl⟩) (by decide +kernel) (by decide) rfl ?_
  refine qb_aloadn dX11_init_76 rfl (i := 0) rfl rfl ?_
  refine qb_bipush dX11_init_77 rfl (by decide) (by decide) ?_
  refine zw_newa (n := 96) (c := 70) (sh' := zs139) (hp' := zH zo96 hp) (cs' := 10) (ss' := 925) dX11_init_79 rfl rfl (by decide) rfl rfl (by decide +kernel) (by decide +kernel) (by decide) rfl rfl ?_
  refine zw_putr (ci := 11) (k := 14) (c := 60) (b := 70) (sl := [none, some (some 61), none, some (some 62), some (some 63), some (some 64), some (some 65), some (some 66), some (some 67), none, some (some 68), none, some (some 69), none, some none, some none, some none, some none, none, some none, some none, some none, some none, some none, none, some none, some none, some none, some none, none, none, none, none, none, some none, some none, some none, some none, none, none, none, none, none, none, none, none, none, none, some none, some none]) (sh' := zs140) dX11_init_81 rfl qf_X11_37 rfl rfl rfl (fun _ => ⟨rfl, rfl⟩) (by decide +kernel) (by decide) rfl ?_
  refine qb_aloadn dX11_init_84 rfl (i := 0) rfl rfl ?_
  refine qb_bipush dX11_init_85 rfl (by decide) (by decide) ?_
  refine zw_newa (n := 10) (c := 71) (sh' := zs141) (hp' := zH zo97 hp) (cs' := 11) (ss' := 935) dX11_init_87 rfl rfl (by decide) rfl rfl (by decide +kernel) (by decide +kernel) (by decide) rfl rfl ?_
  refine zw_putr (ci := 11) (k := 15) (c := 60) (b := 71) (sl := [none, some (some 61), none, some (some 62), some (some 63), some (some 64), some (some 65), some (some 66), some (some 67), none, some (some 68), none, some (some 69), none, some (some 70), some none, some none, some none, none, some none, some none, some none, some none, some none, none, some none, some none, some none, some none, none, none, none, none, none, some none, some none, some none, some none, none, none, none, none, none, none, none, none, none, none, some none, some none]) (sh' := zs142) dX11_init_89 rfl qf_X11_40 rfl rfl rfl (fun _ => ⟨rfl, rfl⟩) (by decide +kernel) (by decide) rfl ?_
  refine qb_aloadn dX11_init_92 rfl (i := 0) rfl rfl ?_
  refine qb_bipush dX11_init_93 rfl (by decide) (by decide) ?_
  exact kk
def zs143 : qb_Sh := zs142 ++ [.inr 10]
def zo98 : List (Nat × Option (Int × Int)) := (72, none) :: zo97
def zs144 : qb_Sh := zs143.set 60 (.inl (11, [none, some (some 61), none, some (some 62), some (some 63), some (some 64), some (some 65), some (some 66), some (some 67), none, some (some 68), none, some (some 69), none, some (some 70), some (some 71), some (some 72), some none, none, some none, some none, some none, some none, some none, none, some none, some none, some none, some none, none, none, none, none, none, some none, some none, some none, some none, none, none, none, none, none, none, none, none, none, none, some none, some none]))
def zs145 : qb_Sh := zs144 ++ [.inr 10]
def zo99 : List (Nat × Option (Int × Int)) := (73, none) :: zo98
def zs146 : qb_Sh := zs145.set 60 (.inl (11, [none, some (some 61), none, some (some 62), some (some 63), some (some 64), some (some 65), some (some 66), some (some 67), none, some (some 68), none, some (some 69), none, some (some 70), some (some 71), some (some 72), some (some 73), none, some none, some none, some none, some none, some none, none, some none, some none, some none, some none, none, none, none, none, none, some none, some none, some none, some none, none, none, none, none, none, none, none, none, none, none, some none, some none]))
def zs147 : qb_Sh := zs146 ++ [.inr 60]
def zo100 : List (Nat × Option (Int × Int)) := (74, none) :: zo99
def zs148 : qb_Sh := zs147.set 60 (.inl (11, [none, some (some 61), none, some (some 62), some (some 63), some (some 64), some (some 65), some (some 66), some (some 67), none, some (some 68), none, some (some 69), none, some (some 70), some (some 71), some (some 72), some (some 73), none, some (some 74), some none, some none, some none, some none, none, some none, some none, some none, some none, none, none, none, none, none, some none, some none, some none, some none, none, none, none, none, none, none, none, none, none, none, some none, some none]))
def zs149 : qb_Sh := zs148 ++ [.inr 60]
def zo101 : List (Nat × Option (Int × Int)) := (75, none) :: zo100
def zs150 : qb_Sh := zs149.set 60 (.inl (11, [none, some (some 61), none, some (some 62), some (some 63), some (some 64), some (some 65), some (some 66), some (some 67), none, some (some 68), none, some (some 69), none, some (some 70), some (some 71), some (some 72), some (some 73), none, some (some 74), some (some 75), some none, some none, some none, none, some none, some none, some none, some none, none, none, none, none, none, some none, some none, some none, some none, none, none, none, none, none, none, none, none, none, none, some none, some none]))
def zs151 : qb_Sh := zs150 ++ [.inr 60]
def zo102 : List (Nat × Option (Int × Int)) := (76, none) :: zo101
def zs152 : qb_Sh := zs151.set 60 (.inl (11, [none, some (some 61), none, some (some 62), some (some 63), some (some 64), some (some 65), some (some 66), some (some 67), none, some (some 68), none, some (some 69), none, some (some 70), some (some 71), some (some 72), some (some 73), none, some (some 74), some (some 75), some (some 76), some none, some none, none, some none, some none, some none, some none, none, none, none, none, none, some none, some none, some none, some none, none, none, none, none, none, none, none, none, none, none, some none, some none]))
def zs153 : qb_Sh := zs152 ++ [.inr 4]
def zo103 : List (Nat × Option (Int × Int)) := (77, none) :: zo102
def zs154 : qb_Sh := zs153.set 60 (.inl (11, [none, some (some 61), none, some (some 62), some (some 63), some (some 64), some (some 65), some (some 66), some (some 67), none, some (some 68), none, some (some 69), none, some (some 70), some (some 71), some (some 72), some (some 73), none, some (some 74), some (some 75), some (some 76), some (some 77), some none, none, some none, some none, some none, some none, none, none, none, none, none, some none, some none, some none, some none, none, none, none, none, none, none, none, none, none, none, some none, some none]))
theorem z13_mX11_init_2 {hp : qb_H} {Q : Option qb_V → qb_H → qb_Sh → Prop} (kk : qb_R mX11_init 17 1139 zs154 141 [some (.inr (.inl 60)), none] [.inl 4, .inr (.inl 60)] (zH zo103 hp) Q) : qb_R mX11_init 11 935 zs142 95 [some (.inr (.inl 60)), none] [.inl 10, .inr (.inl 60)] (zH zo97 hp) Q := by
  refine zw_newa (n := 10) (c := 72) (sh' := zs143) (hp' := zH zo98 hp) (cs' := 12) (ss' := 945) dX11_init_95 rfl rfl (by decide) rfl rfl (by decide +kernel) (by decide +kernel) (by decide) rfl rfl ?_
  refine zw_putr (ci := 11) (k := 16) (c := 60) (b := 72) (sl := [none, some (some 61), none, some (some 62), some (some 63), some (some 64), some (some 65), some (some 66), some (some 67), none, some (some 68), none, some (some 69), none, some (some 70), some (some 71), some none, some none, none, some none, some none, some none, some none, some none, none, some none, some none, some none, some none, none, none, none, none, none, some none, some none, some none, some none, none, none, none, none, none, none, none, none, none, none, some none, some none]) (sh' := zs144) dX11_init_97 rfl qf_X11_43 rfl rfl rfl (fun _ => ⟨rfl, rfl⟩) (by decide +kernel) (by decide) rfl ?_
  refine qb_aloadn dX11_init_100 rfl (i := 0) rfl rfl ?_
  refine qb_bipush dX11_init_101 rfl (by decide) (by decide) ?_
  refine zw_newa (n := 10) (c := 73) (sh' := zs145) (hp' := zH zo99 hp) (cs' := 13) (ss' := 955) dX11_init_103 rfl rfl (by decide) rfl rfl (by decide +kernel) (by decide +kernel) (by decide) rfl rfl ?_
  refine zw_putr (ci := 11) (k := 17) (c := 60) (b := 73) (sl := [none, some (some 61), none, some (some 62), some (some 63), some (some 64), some (some 65), some (some 66), some (some 67), none, some (some 68), none, some (some 69), none, some (some 70), some (some 71), some (some 72), some none, none, some none, some none, some none, some none, some none, none, some none, some none, some none, some none, none, none, none, none, none, some none, some none, some none, some none, none, none, none, none, none, none, none, none, none, none, some none, some none]) (sh' := zs146) dX11_init_105 rfl qf_X11_46 rfl rfl rfl (fun _ => ⟨rfl, rfl⟩) (by decide +kernel) (by decide) rfl ?_
  refine qb_aloadn dX11_init_108 rfl (i := 0) rfl rfl ?_
  refine qb_bipush dX11_init_109 rfl (by decide) (by decide) ?_
  refine zw_newa (n := 60) (c := 74) (sh' := zs147) (hp' := zH zo100 hp) (cs' := 14) (ss' := 1015) dX11_init_111 rfl rfl (by decide) rfl rfl (by decide +kernel) (by decide +kernel) (by decide) rfl rfl ?_
  refine zw_putr (ci := 11) (k := 19) (c := 60) (b := 74) (sl := [none, some (some 61), none, some (some 62), some (some 63), some (some 64), some (some 65), some (some 66), some (some 67), none, some (some 68), none, some (some 69), none, some (some 70), some (some 71), some (some 72), some (some 73), none, some none, some none, some none, some none, some none, none, some none, some none, some none, some none, none, none, none, none, none, some none, some none, some none, some none, none, none, none, none, none, none, none, none, none, none, some none, some none]) (sh' := zs148) dX11_init_113 rfl qf_X11_49 rfl rfl rfl (fun _ => ⟨rfl, rfl⟩) (by decide +kernel) (by decide) rfl ?_
  refine qb_aloadn dX11_init_116 rfl (i := 0) rfl rfl ?_
  refine qb_bipush dX11_init_117 rfl (by decide) (by decide) ?_
  refine zw_newa (n := 60) (c := 75) (sh' := zs149) (hp' := zH zo101 hp) (cs' := 15) (ss' := 1075) dX11_init_119 rfl rfl (by decide) rfl rfl (by decide +kernel) (by decide +kernel) (by decide) rfl rfl ?_
  refine zw_putr (ci := 11) (k := 20) (c := 60) (b := 75) (sl := [none, some (some 61), none, some (some 62), some (some 63), some (some 64), some (some 65), some (some 66), some (some 67), none, some (some 68), none, some (some 69), none, some (some 70), some (some 71), some (some 72), some (some 73), none, some (some 74), some none, some none, some none, some none, none, some none, some none, some none, some none, none, none, none, none, none, some none, some none, some none, some none, none, none, none, none, none, none, none, none, none, none, some none, some none]) (sh' := zs150) dX11_init_121 rfl qf_X11_52 rfl rfl rfl (fun _ => ⟨rfl, rfl⟩) (by decide +kernel) (by decide) rfl ?_
  refine qb_aloadn dX11_init_124 rfl (i := 0) rfl rfl ?_
  refine qb_bipush dX11_init_125 rfl (by decide) (by decide) ?_
  refine zw_newa (n := 60) (c := 76) (sh' := zs151) (hp' := zH zo102 hp) (cs' := 16) (ss' := 1135) dX11_init_127 rfl rfl (by decide) rfl rfl (by decide +kernel) (by decide +kernel) (by decide) rfl rfl ?_
  refine zw_putr (ci := 11) (k := 21) (c := 60) (b := 76) (sl := [none, some (some 61), none, some (some 62), some (some 63), some (some 64), some (some 65), some (some 66), some (some 67), none, some (some 68), none, some (some 69), none, some (some 70), some (some 71), some (some 72), some (some 73), none, some (some 74), some (some 75), some none, some none, some none, none, some none, some none, some none, some none, none, none, none, none, none, some none, some none, some none, some none, none, none, none, none, none, none, none, none, none, none, some none, some none]) (sh' := zs152) dX11_init_129 rfl qf_X11_55 rfl rfl rfl (fun _ => ⟨rfl, rfl⟩) (by decide +kernel) (by decide) rfl ?_
  refine qb_aloadn dX11_init_132 rfl (i := 0) rfl rfl ?_
  refine qb_iconst dX11_init_133 rfl (by decide) ?_
  refine zw_newa (n := 4) (c := 77) (sh' := zs153) (hp' := zH zo103 hp) (cs' := 17) (ss' := 1139) dX11_init_134 rfl rfl (by decide) rfl rfl (by decide +kernel) (by decide +kernel) (by decide) rfl rfl ?_
  refine zw_putr (ci := 11) (k := 22) (c := 60) (b := 77) (sl := [none, some (some 61), none, some (some 62), some (some 63), some (some 64), some (some 65), some (some 66), some (some 67), none, some (some 68), none, some (some 69), none, some (some 70), some (some 71), some (some 72), some (some 73), none, some (some 74), some (some 75), some (some 76), some none, some none, none, some none, some none, some none, some none, none, none, none, none, none, some none, some none, some none, some none, none, none, none, none, none, none, none, none, none, none, some none, some none]) (sh' := zs154) dX11_init_136 rfl qf_X11_58 rfl rfl rfl (fun _ => ⟨rfl, rfl⟩) (by decide +kernel) (by decide) rfl ?_
  refine qb_aloadn dX11_init_139 rfl (i := 0) rfl rfl ?_
  refine qb_iconst dX11_init_140 rfl (by decide) ?_
  exact kk
def zs155 : qb_Sh := zs154 ++ [.inr 4]
def zo104 : List (Nat × Option (Int × Int)) := (78, none) :: zo103
def zs156 : qb_Sh := zs155.set 60 (.inl (11, [none, some (some 61), none, some (some 62), some (some 63), some (some 64), some (some 65), some (some 66), some (some 67), none, some (some 68), none, some (some 69), none, some (some 70), some (some 71), some (some 72), some (some 73), none, some (some 74), some (some 75), some (some 76), some (some 77), some (some 78), none, some none, some none, some none, some none, none, none, none, none, none, some none, some none, some none, some none, none, none, none, none, none, none, none, none, none, none, some none, some none]))
def zs157 : qb_Sh := zs156 ++ [.inr 60]
def zo105 : List (Nat × Option (Int × Int)) := (79, none) :: zo104
def zs158 : qb_Sh := zs157.set 60 (.inl (11, [none, some (some 61), none, some (some 62), some (some 63), some (some 64), some (some 65), some (some 66), some (some 67), none, some (some 68), none, some (some 69), none, some (some 70), some (some 71), some (some 72), some (some 73), none, some (some 74), some (some 75), some (some 76), some (some 77), some (some 78), none, some (some 79), some none, some none, some none, none, none, none, none, none, some none, some none, some none, some none, none, none, none, none, none, none, none, none, none, none, some none, some none]))
def zs159 : qb_Sh := zs158 ++ [.inr 60]
def zo106 : List (Nat × Option (Int × Int)) := (80, none) :: zo105
def zs160 : qb_Sh := zs159.set 60 (.inl (11, [none, some (some 61), none, some (some 62), some (some 63), some (some 64), some (some 65), some (some 66), some (some 67), none, some (some 68), none, some (some 69), none, some (some 70), some (some 71), some (some 72), some (some 73), none, some (some 74), some (some 75), some (some 76), some (some 77), some (some 78), none, some (some 79), some (some 80), some none, some none, none, none, none, none, none, some none, some none, some none, some none, none, none, none, none, none, none, none, none, none, none, some none, some none]))
def zs161 : qb_Sh := zs160 ++ [.inr 60]
def zo107 : List (Nat × Option (Int × Int)) := (81, none) :: zo106
def zs162 : qb_Sh := zs161.set 60 (.inl (11, [none, some (some 61), none, some (some 62), some (some 63), some (some 64), some (some 65), some (some 66), some (some 67), none, some (some 68), none, some (some 69), none, some (some 70), some (some 71), some (some 72), some (some 73), none, some (some 74), some (some 75), some (some 76), some (some 77), some (some 78), none, some (some 79), some (some 80), some (some 81), some none, none, none, none, none, none, some none, some none, some none, some none, none, none, none, none, none, none, none, none, none, none, some none, some none]))
def zs163 : qb_Sh := zs162 ++ [.inr 60]
def zo108 : List (Nat × Option (Int × Int)) := (82, none) :: zo107
def zs164 : qb_Sh := zs163.set 60 (.inl (11, [none, some (some 61), none, some (some 62), some (some 63), some (some 64), some (some 65), some (some 66), some (some 67), none, some (some 68), none, some (some 69), none, some (some 70), some (some 71), some (some 72), some (some 73), none, some (some 74), some (some 75), some (some 76), some (some 77), some (some 78), none, some (some 79), some (some 80), some (some 81), some (some 82), none, none, none, none, none, some none, some none, some none, some none, none, none, none, none, none, none, none, none, none, none, some none, some none]))
def zs165 : qb_Sh := zs164 ++ [.inr 2400]
def zo109 : List (Nat × Option (Int × Int)) := (83, none) :: zo108
def zs166 : qb_Sh := zs165.set 60 (.inl (11, [none, some (some 61), none, some (some 62), some (some 63), some (some 64), some (some 65), some (some 66), some (some 67), none, some (some 68), none, some (some 69), none, some (some 70), some (some 71), some (some 72), some (some 73), none, some (some 74), some (some 75), some (some 76), some (some 77), some (some 78), none, some (some 79), some (some 80), some (some 81), some (some 82), none, none, none, none, none, some (some 83), some none, some none, some none, none, none, none, none, none, none, none, none, none, none, some none, some none]))
theorem z13_mX11_init_3 {hp : qb_H} {Q : Option qb_V → qb_H → qb_Sh → Prop} (kk : qb_R mX11_init 23 3783 zs166 191 [some (.inr (.inl 60)), none] [.inl 2400, .inr (.inl 60)] (zH zo109 hp) Q) : qb_R mX11_init 17 1139 zs154 141 [some (.inr (.inl 60)), none] [.inl 4, .inr (.inl 60)] (zH zo103 hp) Q := by
  refine zw_newa (n := 4) (c := 78) (sh' := zs155) (hp' := zH zo104 hp) (cs' := 18) (ss' := 1143) dX11_init_141 rfl rfl (by decide) rfl rfl (by decide +kernel) (by decide +kernel) (by decide) rfl rfl ?_
  refine zw_putr (ci := 11) (k := 23) (c := 60) (b := 78) (sl := [none, some (some 61), none, some (some 62), some (some 63), some (some 64), some (some 65), some (some 66), some (some 67), none, some (some 68), none, some (some 69), none, some (some 70), some (some 71), some (some 72), some (some 73), none, some (some 74), some (some 75), some (some 76), some (some 77), some none, none, some none, some none, some none, some none, none, none, none, none, none, some none, some none, some none, some none, none, none, none, none, none, none, none, none, none, none, some none, some none]) (sh' := zs156) dX11_init_143 rfl qf_X11_61 rfl rfl rfl (fun _ => ⟨rfl, rfl⟩) (by decide +kernel) (by decide) rfl ?_
  refine qb_aloadn dX11_init_146 rfl (i := 0) rfl rfl ?_
  refine qb_bipush dX11_init_147 rfl (by decide) (by decide) ?_
  refine zw_newa (n := 60) (c := 79) (sh' := zs157) (hp' := zH zo105 hp) (cs' := 19) (ss' := 1203) dX11_init_149 rfl rfl (by decide) rfl rfl (by decide +kernel) (by decide +kernel) (by decide) rfl rfl ?_
  refine zw_putr (ci := 11) (k := 25) (c := 60) (b := 79) (sl := [none, some (some 61), none, some (some 62), some (some 63), some (some 64), some (some 65), some (some 66), some (some 67), none, some (some 68), none, some (some 69), none, some (some 70), some (some 71), some (some 72), some (some 73), none, some (some 74), some (some 75), some (some 76), some (some 77), some (some 78), none, some none, some none, some none, some none, none, none, none, none, none, some none, some none, some none, some none, none, none, none, none, none, none, none, none, none, none, some none, some none]) (sh' := zs158) dX11_init_151 rfl qf_X11_64 rfl rfl rfl (fun _ => ⟨rfl, rfl⟩) (by decide +kernel) (by decide) rfl ?_
  refine qb_aloadn dX11_init_154 rfl (i := 0) rfl rfl ?_
  refine qb_bipush dX11_init_155 rfl (by decide) (by decide) ?_
  refine zw_newa (n := 60) (c := 80) (sh' := zs159) (hp' := zH zo106 hp) (cs' := 20) (ss' := 1263) dX11_init_157 rfl rfl (by decide) rfl rfl (by decide +kernel) (by decide +kernel) (by decide) rfl rfl ?_
  refine zw_putr (ci := 11) (k := 26) (c := 60) (b := 80) (sl := [none, some (some 61), none, some (some 62), some (some 63), some (some 64), some (some 65), some (some 66), some (some 67), none, some (some 68), none, some (some 69), none, some (some 70), some (some 71), some (some 72), some (some 73), none, some (some 74), some (some 75), some (some 76), some (some 77), some (some 78), none, some (some 79), some none, some none, some none, none, none, none, none, none, some none, some none, some none, some none, none, none, none, none, none, none, none, none, none, none, some none, some none]) (sh' := zs160) dX11_init_159 rfl qf_X11_67 rfl rfl rfl (fun _ => ⟨rfl, rfl⟩) (by decide +kernel) (by decide) rfl ?_
  refine qb_aloadn dX11_init_162 rfl (i := 0) rfl rfl ?_
  refine qb_bipush dX11_init_163 rfl (by decide) (by decide) ?_
  refine zw_newa (n := 60) (c := 81) (sh' := zs161) (hp' := zH zo107 hp) (cs' := 21) (ss' := 1323) dX11_init_165 rfl rfl (by decide) rfl rfl (by decide +kernel) (by decide +kernel) (by decide) rfl rfl ?_
  refine zw_putr (ci := 11) (k := 27) (c := 60) (b := 81) (sl := [none, some (some 61), none, some (some 62), some (some 63), some (some 64), some (some 65), some (some 66), some (some 67), none, some (some 68), none, some (some 69), none, some (some 70), some (some 71), some (some 72), some (some 73), none, some (some 74), some (some 75), some (some 76), some (some 77), some (some 78), none, some (some 79), some (some 80), some none, some none, none, none, none, none, none, some none, some none, some none, some none, none, none, none, none, none, none, none, none, none, none, some none, some none]) (sh' := zs162) dX11_init_167 rfl qf_X11_70 rfl rfl rfl (fun _ => ⟨rfl, rfl⟩) (by decide +kernel) (by decide) rfl ?_
  refine qb_aloadn dX11_init_170 rfl (i := 0) rfl rfl ?_
  refine qb_bipush dX11_init_171 rfl (by decide) (by decide) ?_
  refine zw_newa (n := 60) (c := 82) (sh' := zs163) (hp' := zH zo108 hp) (cs' := 22) (ss' := 1383) dX11_init_173 rfl rfl (by decide) rfl rfl (by decide +kernel) (by decide +kernel) (by decide) rfl rfl ?_
  refine zw_putr (ci := 11) (k := 28) (c := 60) (b := 82) (sl := [none, some (some 61), none, some (some 62), some (some 63), some (some 64), some (some 65), some (some 66), some (some 67), none, some (some 68), none, some (some 69), none, some (some 70), some (some 71), some (some 72), some (some 73), none, some (some 74), some (some 75), some (some 76), some (some 77), some (some 78), none, some (some 79), some (some 80), some (some 81), some none, none, none, none, none, none, some none, some none, some none, some none, none, none, none, none, none, none, none, none, none, none, some none, some none]) (sh' := zs164) dX11_init_175 rfl qf_X11_73 rfl rfl rfl (fun _ => ⟨rfl, rfl⟩) (by decide +kernel) (by decide) rfl ?_
  refine qb_aloadn dX11_init_178 rfl (i := 0) rfl rfl ?_
  refine qb_sipush dX11_init_179 rfl (by decide) (by decide) ?_
  refine zw_newa (n := 2400) (c := 83) (sh' := zs165) (hp' := zH zo109 hp) (cs' := 23) (ss' := 3783) dX11_init_182 rfl rfl (by decide) rfl rfl (by decide +kernel) (by decide +kernel) (by decide) rfl rfl ?_
  refine zw_putr (ci := 11) (k := 34) (c := 60) (b := 83) (sl := [none, some (some 61), none, some (some 62), some (some 63), some (some 64), some (some 65), some (some 66), some (some 67), none, some (some 68), none, some (some 69), none, some (some 70), some (some 71), some (some 72), some (some 73), none, some (some 74), some (some 75), some (some 76), some (some 77), some (some 78), none, some (some 79), some (some 80), some (some 81), some (some 82), none, none, none, none, none, some none, some none, some none, some none, none, none, none, none, none, none, none, none, none, none, some none, some none]) (sh' := zs166) dX11_init_184 rfl qf_X11_76 rfl rfl rfl (fun _ => ⟨rfl, rfl⟩) (by decide +kernel) (by decide) rfl ?_
  refine qb_aloadn dX11_init_187 rfl (i := 0) rfl rfl ?_
  refine qb_sipush dX11_init_188 rfl (by decide) (by decide) ?_
  exact kk
def zs167 : qb_Sh := zs166 ++ [.inr 2400]
def zo110 : List (Nat × Option (Int × Int)) := (84, none) :: zo109
def zs168 : qb_Sh := zs167.set 60 (.inl (11, [none, some (some 61), none, some (some 62), some (some 63), some (some 64), some (some 65), some (some 66), some (some 67), none, some (some 68), none, some (some 69), none, some (some 70), some (some 71), some (some 72), some (some 73), none, some (some 74), some (some 75), some (some 76), some (some 77), some (some 78), none, some (some 79), some (some 80), some (some 81), some (some 82), none, none, none, none, none, some (some 83), some (some 84), some none, some none, none, none, none, none, none, none, none, none, none, none, some none, some none]))
def zs169 : qb_Sh := zs168 ++ [.inr 2400]
def zo111 : List (Nat × Option (Int × Int)) := (85, none) :: zo110
def zs170 : qb_Sh := zs169.set 60 (.inl (11, [none, some (some 61), none, some (some 62), some (some 63), some (some 64), some (some 65), some (some 66), some (some 67), none, some (some 68), none, some (some 69), none, some (some 70), some (some 71), some (some 72), some (some 73), none, some (some 74), some (some 75), some (some 76), some (some 77), some (some 78), none, some (some 79), some (some 80), some (some 81), some (some 82), none, none, none, none, none, some (some 83), some (some 84), some (some 85), some none, none, none, none, none, none, none, none, none, none, none, some none, some none]))
def zs171 : qb_Sh := zs170 ++ [.inr 30]
def zo112 : List (Nat × Option (Int × Int)) := (86, none) :: zo111
def zs172 : qb_Sh := zs171.set 60 (.inl (11, [none, some (some 61), none, some (some 62), some (some 63), some (some 64), some (some 65), some (some 66), some (some 67), none, some (some 68), none, some (some 69), none, some (some 70), some (some 71), some (some 72), some (some 73), none, some (some 74), some (some 75), some (some 76), some (some 77), some (some 78), none, some (some 79), some (some 80), some (some 81), some (some 82), none, none, none, none, none, some (some 83), some (some 84), some (some 85), some (some 86), none, none, none, none, none, none, none, none, none, none, some none, some none]))
def zs173 : qb_Sh := zs172 ++ [.inr 5]
def zo113 : List (Nat × Option (Int × Int)) := (87, none) :: zo112
def zs174 : qb_Sh := zs173.set 60 (.inl (11, [none, some (some 61), none, some (some 62), some (some 63), some (some 64), some (some 65), some (some 66), some (some 67), none, some (some 68), none, some (some 69), none, some (some 70), some (some 71), some (some 72), some (some 73), none, some (some 74), some (some 75), some (some 76), some (some 77), some (some 78), none, some (some 79), some (some 80), some (some 81), some (some 82), none, none, none, none, none, some (some 83), some (some 84), some (some 85), some (some 86), none, none, none, none, none, none, none, none, none, none, some (some 87), some none]))
def zs175 : qb_Sh := zs174 ++ [.inr 2205]
def zo114 : List (Nat × Option (Int × Int)) := (88, none) :: zo113
def zs176 : qb_Sh := zs175.set 60 (.inl (11, [none, some (some 61), none, some (some 62), some (some 63), some (some 64), some (some 65), some (some 66), some (some 67), none, some (some 68), none, some (some 69), none, some (some 70), some (some 71), some (some 72), some (some 73), none, some (some 74), some (some 75), some (some 76), some (some 77), some (some 78), none, some (some 79), some (some 80), some (some 81), some (some 82), none, none, none, none, none, some (some 83), some (some 84), some (some 85), some (some 86), none, none, none, none, none, none, none, none, none, none, some (some 87), some (some 88)]))
theorem z13_mX11_init_4 {hp : qb_H} {Q : Option qb_V → qb_H → qb_Sh → Prop} (kk : qb_R mX11_init 28 10823 zs176 237 [some (.inr (.inl 60)), some (.inl 0)] [.inr (.inl 60)] (zH zo114 hp) Q) : qb_R mX11_init 23 3783 zs166 191 [some (.inr (.inl 60)), none] [.inl 2400, .inr (.inl 60)] (zH zo109 hp) Q := by
  refine zw_newa (n := 2400) (c := 84) (sh' := zs167) (hp' := zH zo110 hp) (cs' := 24) (ss' := 6183) dX11_init_191 rfl rfl (by decide) rfl rfl (by decide +kernel) (by decide +kernel) (by decide) rfl rfl ?_
  refine zw_putr (ci := 11) (k := 35) (c := 60) (b := 84) (sl := [none, some (some 61), none, some (some 62), some (some 63), some (some 64), some (some 65), some (some 66), some (some 67), none, some (some 68), none, some (some 69), none, some (some 70), some (some 71), some (some 72), some (some 73), none, some (some 74), some (some 75), some (some 76), some (some 77), some (some 78), none, some (some 79), some (some 80), some (some 81), some (some 82), none, none, none, none, none, some (some 83), some none, some none, some none, none, none, none, none, none, none, none, none, none, none, some none, some none]) (sh' := zs168) dX11_init_193 rfl qf_X11_79 rfl rfl rfl (fun _ => ⟨rfl, rfl⟩) (by decide +kernel) (by decide) rfl ?_
  refine qb_aloadn dX11_init_196 rfl (i := 0) rfl rfl ?_
  refine qb_sipush dX11_init_197 rfl (by decide) (by decide) ?_
  refine zw_newa (n := 2400) (c := 85) (sh' := zs169) (hp' := zH zo111 hp) (cs' := 25) (ss' := 8583) dX11_init_200 rfl rfl (by decide) rfl rfl (by decide +kernel) (by decide +kernel) (by decide) rfl rfl ?_
  refine zw_putr (ci := 11) (k := 36) (c := 60) (b := 85) (sl := [none, some (some 61), none, some (some 62), some (some 63), some (some 64), some (some 65), some (some 66), some (some 67), none, some (some 68), none, some (some 69), none, some (some 70), some (some 71), some (some 72), some (some 73), none, some (some 74), some (some 75), some (some 76), some (some 77), some (some 78), none, some (some 79), some (some 80), some (some 81), some (some 82), none, none, none, none, none, some (some 83), some (some 84), some none, some none, none, none, none, none, none, none, none, none, none, none, some none, some none]) (sh' := zs170) dX11_init_202 rfl qf_X11_82 rfl rfl rfl (fun _ => ⟨rfl, rfl⟩) (by decide +kernel) (by decide) rfl ?_
  refine qb_aloadn dX11_init_205 rfl (i := 0) rfl rfl ?_
  refine qb_bipush dX11_init_206 rfl (by decide) (by decide) ?_
  refine zw_newa (n := 30) (c := 86) (sh' := zs171) (hp' := zH zo112 hp) (cs' := 26) (ss' := 8613) dX11_init_208 rfl rfl (by decide) rfl rfl (by decide +kernel) (by decide +kernel) (by decide) rfl rfl ?_
  refine zw_putr (ci := 11) (k := 37) (c := 60) (b := 86) (sl := [none, some (some 61), none, some (some 62), some (some 63), some (some 64), some (some 65), some (some 66), some (some 67), none, some (some 68), none, some (some 69), none, some (some 70), some (some 71), some (some 72), some (some 73), none, some (some 74), some (some 75), some (some 76), some (some 77), some (some 78), none, some (some 79), some (some 80), some (some 81), some (some 82), none, none, none, none, none, some (some 83), some (some 84), some (some 85), some none, none, none, none, none, none, none, none, none, none, none, some none, some none]) (sh' := zs172) dX11_init_210 rfl qf_X11_85 rfl rfl rfl (fun _ => ⟨rfl, rfl⟩) (by decide +kernel) (by decide) rfl ?_
  refine qb_aloadn dX11_init_213 rfl (i := 0) rfl rfl ?_
  refine qb_iconst dX11_init_214 rfl (by decide) ?_
  refine zw_newa (n := 5) (c := 87) (sh' := zs173) (hp' := zH zo113 hp) (cs' := 27) (ss' := 8618) dX11_init_215 rfl rfl (by decide) rfl rfl (by decide +kernel) (by decide +kernel) (by decide) rfl rfl ?_
  refine zw_putr (ci := 11) (k := 48) (c := 60) (b := 87) (sl := [none, some (some 61), none, some (some 62), some (some 63), some (some 64), some (some 65), some (some 66), some (some 67), none, some (some 68), none, some (some 69), none, some (some 70), some (some 71), some (some 72), some (some 73), none, some (some 74), some (some 75), some (some 76), some (some 77), some (some 78), none, some (some 79), some (some 80), some (some 81), some (some 82), none, none, none, none, none, some (some 83), some (some 84), some (some 85), some (some 86), none, none, none, none, none, none, none, none, none, none, some none, some none]) (sh' := zs174) dX11_init_217 rfl qf_X11_88 rfl rfl rfl (fun _ => ⟨rfl, rfl⟩) (by decide +kernel) (by decide) rfl ?_
  refine qb_aloadn dX11_init_220 rfl (i := 0) rfl rfl ?_
  refine qb_sipush dX11_init_221 rfl (by decide) (by decide) ?_
  refine zw_newa (n := 2205) (c := 88) (sh' := zs175) (hp' := zH zo114 hp) (cs' := 28) (ss' := 10823) dX11_init_224 rfl rfl (by decide) rfl rfl (by decide +kernel) (by decide +kernel) (by decide) rfl rfl ?_
  refine zw_putr (ci := 11) (k := 49) (c := 60) (b := 88) (sl := [none, some (some 61), none, some (some 62), some (some 63), some (some 64), some (some 65), some (some 66), some (some 67), none, some (some 68), none, some (some 69), none, some (some 70), some (some 71), some (some 72), some (some 73), none, some (some 74), some (some 75), some (some 76), some (some 77), some (some 78), none, some (some 79), some (some 80), some (some 81), some (some 82), none, none, none, none, none, some (some 83), some (some 84), some (some 85), some (some 86), none, none, none, none, none, none, none, none, none, none, some (some 87), some none]) (sh' := zs176) dX11_init_226 rfl qf_X11_91 rfl rfl rfl (fun _ => ⟨rfl, rfl⟩) (by decide +kernel) (by decide) rfl ?_
  refine qb_iconst dX11_init_229 rfl (by decide) ?_
  refine qb_istoren dX11_init_230 rfl (i := 1) rfl (by decide) rfl rfl ?_
  refine qb_iloadn dX11_init_231 rfl (i := 1) rfl rfl ?_
  refine qb_iconst dX11_init_232 rfl (by decide) ?_
  refine qb_cge dX11_init_233 (tgt := 258) rfl rfl (fun h => absurd h (by decide)) (fun _ => ?_)
  refine qb_aloadn dX11_init_236 rfl (i := 0) rfl rfl ?_
  exact kk
def zo115 : List (Nat × Option (Int × Int)) := (65, some (0, 1)) :: zo114
def zo116 : List (Nat × Option (Int × Int)) := (66, some (0, 500)) :: zo115
def zo117 : List (Nat × Option (Int × Int)) := (65, some (1, 1)) :: zo116
def zo118 : List (Nat × Option (Int × Int)) := (66, some (1, 500)) :: zo117
theorem z13_mX11_init_5 {hp : qb_H} {Q : Option qb_V → qb_H → qb_Sh → Prop} (kk : qb_R mX11_init 28 10823 zs176 252 [some (.inr (.inl 60)), some (.inl 1)] [] (zH zo118 hp) Q) : qb_R mX11_init 28 10823 zs176 237 [some (.inr (.inl 60)), some (.inl 0)] [.inr (.inl 60)] (zH zo114 hp) Q := by
  refine qb_geta (c := 60) (b := 65) (sl := [none, some (some 61), none, some (some 62), some (some 63), some (some 64), some (some 65), some (some 66), some (some 67), none, some (some 68), none, some (some 69), none, some (some 70), some (some 71), some (some 72), some (some 73), none, some (some 74), some (some 75), some (some 76), some (some 77), some (some 78), none, some (some 79), some (some 80), some (some 81), some (some 82), none, none, none, none, none, some (some 83), some (some 84), some (some 85), some (some 86), none, none, none, none, none, none, none, none, none, none, some (some 87), some (some 88)]) dX11_init_237 rfl qf_X11_22 (by decide +kernel) rfl ?_
  refine qb_iloadn dX11_init_240 rfl (i := 1) rfl rfl ?_
  refine qb_iconst dX11_init_241 rfl (by decide) ?_
  refine zw_iast (c := 65) (n := 4) (hp' := zH zo115 hp) dX11_init_242 rfl (by decide +kernel) (by decide) rfl ?_
  refine qb_aloadn dX11_init_243 rfl (i := 0) rfl rfl ?_
  refine qb_geta (c := 60) (b := 66) (sl := [none, some (some 61), none, some (some 62), some (some 63), some (some 64), some (some 65), some (some 66), some (some 67), none, some (some 68), none, some (some 69), none, some (some 70), some (some 71), some (some 72), some (some 73), none, some (some 74), some (some 75), some (some 76), some (some 77), some (some 78), none, some (some 79), some (some 80), some (some 81), some (some 82), none, none, none, none, none, some (some 83), some (some 84), some (some 85), some (some 86), none, none, none, none, none, none, none, none, none, none, some (some 87), some (some 88)]) dX11_init_244 rfl qf_X11_25 (by decide +kernel) rfl ?_
  refine qb_iloadn dX11_init_247 rfl (i := 1) rfl rfl ?_
  refine qb_sipush dX11_init_248 rfl (by decide) (by decide) ?_
  refine zw_iast (c := 66) (n := 4) (hp' := zH zo116 hp) dX11_init_251 rfl (by decide +kernel) (by decide) rfl ?_
  refine qb_iinc (L' := [some (.inr (.inl 60)), some (.inl 1)]) dX11_init_252 rfl (i := 1) rfl ⟨by decide, by decide⟩ (by decide) rfl rfl ?_
  refine qb_goto dX11_init_255 (tgt := 231) rfl ?_
  refine qb_iloadn dX11_init_231 rfl (i := 1) rfl rfl ?_
  refine qb_iconst dX11_init_232 rfl (by decide) ?_
  refine qb_cge dX11_init_233 (tgt := 258) rfl rfl (fun h => absurd h (by decide)) (fun _ => ?_)
  refine qb_aloadn dX11_init_236 rfl (i := 0) rfl rfl ?_
  refine qb_geta (c := 60) (b := 65) (sl := [none, some (some 61), none, some (some 62), some (some 63), some (some 64), some (some 65), some (some 66), some (some 67), none, some (some 68), none, some (some 69), none, some (some 70), some (some 71), some (some 72), some (some 73), none, some (some 74), some (some 75), some (some 76), some (some 77), some (some 78), none, some (some 79), some (some 80), some (some 81), some (some 82), none, none, none, none, none, some (some 83), some (some 84), some (some 85), some (some 86), none, none, none, none, none, none, none, none, none, none, some (some 87), some (some 88)]) dX11_init_237 rfl qf_X11_22 (by decide +kernel) rfl ?_
  refine qb_iloadn dX11_init_240 rfl (i := 1) rfl rfl ?_
  refine qb_iconst dX11_init_241 rfl (by decide) ?_
  refine zw_iast (c := 65) (n := 4) (hp' := zH zo117 hp) dX11_init_242 rfl (by decide +kernel) (by decide) rfl ?_
  refine qb_aloadn dX11_init_243 rfl (i := 0) rfl rfl ?_
  refine qb_geta (c := 60) (b := 66) (sl := [none, some (some 61), none, some (some 62), some (some 63), some (some 64), some (some 65), some (some 66), some (some 67), none, some (some 68), none, some (some 69), none, some (some 70), some (some 71), some (some 72), some (some 73), none, some (some 74), some (some 75), some (some 76), some (some 77), some (some 78), none, some (some 79), some (some 80), some (some 81), some (some 82), none, none, none, none, none, some (some 83), some (some 84), some (some 85), some (some 86), none, none, none, none, none, none, none, none, none, none, some (some 87), some (some 88)]) dX11_init_244 rfl qf_X11_25 (by decide +kernel) rfl ?_
  refine qb_iloadn dX11_init_247 rfl (i := 1) rfl rfl ?_
  refine qb_sipush dX11_init_248 rfl (by decide) (by decide) ?_
  refine zw_iast (c := 66) (n := 4) (hp' := zH zo118 hp) dX11_init_251 rfl (by decide +kernel) (by decide) rfl ?_
  exact kk
def zo119 : List (Nat × Option (Int × Int)) := (65, some (2, 1)) :: zo118
def zo120 : List (Nat × Option (Int × Int)) := (66, some (2, 500)) :: zo119
theorem z13_mX11_init_6 {hp : qb_H} {Q : Option qb_V → qb_H → qb_Sh → Prop} (kk : qb_R mX11_init 28 10823 zs176 242 [some (.inr (.inl 60)), some (.inl 3)] [.inl 1, .inl 3, .inr (.inl 65)] (zH zo120 hp) Q) : qb_R mX11_init 28 10823 zs176 252 [some (.inr (.inl 60)), some (.inl 1)] [] (zH zo118 hp) Q := by
  refine qb_iinc (L' := [some (.inr (.inl 60)), some (.inl 2)]) dX11_init_252 rfl (i := 1) rfl ⟨by decide, by decide⟩ (by decide) rfl rfl ?_
  refine qb_goto dX11_init_255 (tgt := 231) rfl ?_
  refine qb_iloadn dX11_init_231 rfl (i := 1) rfl rfl ?_
  refine qb_iconst dX11_init_232 rfl (by decide) ?_
  refine qb_cge dX11_init_233 (tgt := 258) rfl rfl (fun h => absurd h (by decide)) (fun _ => ?_)
  refine qb_aloadn dX11_init_236 rfl (i := 0) rfl rfl ?_
  refine qb_geta (c := 60) (b := 65) (sl := [none, some (some 61), none, some (some 62), some (some 63), some (some 64), some (some 65), some (some 66), some (some 67), none, some (some 68), none, some (some 69), none, some (some 70), some (some 71), some (some 72), some (some 73), none, some (some 74), some (some 75), some (some 76), some (some 77), some (some 78), none, some (some 79), some (some 80), some (some 81), some (some 82), none, none, none, none, none, some (some 83), some (some 84), some (some 85), some (some 86), none, none, none, none, none, none, none, none, none, none, some (some 87), some (some 88)]) dX11_init_237 rfl qf_X11_22 (by decide +kernel) rfl ?_
  refine qb_iloadn dX11_init_240 rfl (i := 1) rfl rfl ?_
  refine qb_iconst dX11_init_241 rfl (by decide) ?_
  refine zw_iast (c := 65) (n := 4) (hp' := zH zo119 hp) dX11_init_242 rfl (by decide +kernel) (by decide) rfl ?_
  refine qb_aloadn dX11_init_243 rfl (i := 0) rfl rfl ?_
  refine qb_geta (c := 60) (b := 66) (sl := [none, some (some 61), none, some (some 62), some (some 63), some (some 64), some (some 65), some (some 66), some (some 67), none, some (some 68), none, some (some 69), none, some (some 70), some (some 71), some (some 72), some (some 73), none, some (some 74), some (some 75), some (some 76), some (some 77), some (some 78), none, some (some 79), some (some 80), some (some 81), some (some 82), none, none, none, none, none, some (some 83), some (some 84), some (some 85), some (some 86), none, none, none, none, none, none, none, none, none, none, some (some 87), some (some 88)]) dX11_init_244 rfl qf_X11_25 (by decide +kernel) rfl ?_
  refine qb_iloadn dX11_init_247 rfl (i := 1) rfl rfl ?_
  refine qb_sipush dX11_init_248 rfl (by decide) (by decide) ?_
  refine zw_iast (c := 66) (n := 4) (hp' := zH zo120 hp) dX11_init_251 rfl (by decide +kernel) (by decide) rfl ?_
  refine qb_iinc (L' := [some (.inr (.inl 60)), some (.inl 3)]) dX11_init_252 rfl (i := 1) rfl ⟨by decide, by decide⟩ (by decide) rfl rfl ?_
  refine qb_goto dX11_init_255 (tgt := 231) rfl ?_
  refine qb_iloadn dX11_init_231 rfl (i := 1) rfl rfl ?_
  refine qb_iconst dX11_init_232 rfl (by decide) ?_
  refine qb_cge dX11_init_233 (tgt := 258) rfl rfl (fun h => absurd h (by decide)) (fun _ => ?_)
  refine qb_aloadn dX11_init_236 rfl (i := 0) rfl rfl ?_
  refine qb_geta (c := 60) (b := 65) (sl := [none, some (some 61), none, some (some 62), some (some 63), some (some 64), some (some 65), some (some 66), some (some 67), none, some (some 68), none, some (some 69), none, some (some 70), some (some 71), some (some 72), some (some 73), none, some (some 74), some (some 75), some (some 76), some (some 77), some (some 78), none, some (some 79), some (some 80), some (some 81), some (some 82), none, none, none, none, none, some (some 83), some (some 84), some (some 85), some (some 86), none, none, none, none, none, none, none, none, none, none, some (some 87), some (some 88)]) dX11_init_237 rfl qf_X11_22 (by decide +kernel) rfl ?_
  refine qb_iloadn dX11_init_240 rfl (i := 1) rfl rfl ?_
  refine qb_iconst dX11_init_241 rfl (by decide) ?_
  exact kk
def zo121 : List (Nat × Option (Int × Int)) := (65, some (3, 1)) :: zo120
def zo122 : List (Nat × Option (Int × Int)) := (66, some (3, 500)) :: zo121
def zo123 : List (Nat × Option (Int × Int)) := (71, some (0, (-1))) :: zo122
theorem z13_mX11_init_7 {hp : qb_H} {Q : Option qb_V → qb_H → qb_Sh → Prop} (kk : qb_R mX11_init 28 10823 zs176 261 [some (.inr (.inl 60)), some (.inl 1)] [.inl 1] (zH zo123 hp) Q) : qb_R mX11_init 28 10823 zs176 242 [some (.inr (.inl 60)), some (.inl 3)] [.inl 1, .inl 3, .inr (.inl 65)] (zH zo120 hp) Q := by
  refine zw_iast (c := 65) (n := 4) (hp' := zH zo121 hp) dX11_init_242 rfl (by decide +kernel) (by decide) rfl ?_
  refine qb_aloadn dX11_init_243 rfl (i := 0) rfl rfl ?_
  refine qb_geta (c := 60) (b := 66) (sl := [none, some (some 61), none, some (some 62), some (some 63), some (some 64), some (some 65), some (some 66), some (some 67), none, some (some 68), none, some (some 69), none, some (some 70), some (some 71), some (some 72), some (some 73), none, some (some 74), some (some 75), some (some 76), some (some 77), some (some 78), none, some (some 79), some (some 80), some (some 81), some (some 82), none, none, none, none, none, some (some 83), some (some 84), some (some 85), some (some 86), none, none, none, none, none, none, none, none, none, none, some (some 87), some (some 88)]) dX11_init_244 rfl qf_X11_25 (by decide +kernel) rfl ?_
  refine qb_iloadn dX11_init_247 rfl (i := 1) rfl rfl ?_
  refine qb_sipush dX11_init_248 rfl (by decide) (by decide) ?_
  refine zw_iast (c := 66) (n := 4) (hp' := zH zo122 hp) dX11_init_251 rfl (by decide +kernel) (by decide) rfl ?_
  refine qb_iinc (L' := [some (.inr (.inl 60)), some (.inl 4)]) dX11_init_252 rfl (i := 1) rfl ⟨by decide, by decide⟩ (by decide) rfl rfl ?_
  refine qb_goto dX11_init_255 (tgt := 231) rfl ?_
  refine qb_iloadn dX11_init_231 rfl (i := 1) rfl rfl ?_
  refine qb_iconst dX11_init_232 rfl (by decide) ?_
  refine qb_cge dX11_init_233 (tgt := 258) rfl rfl (fun _ => ?_) (fun h => absurd h (by decide))
  refine qb_iconst dX11_init_258 rfl (by decide) ?_
  refine qb_istoren dX11_init_259 rfl (i := 1) rfl (by decide) rfl rfl ?_
  refine qb_iloadn dX11_init_260 rfl (i := 1) rfl rfl ?_
  refine qb_bipush dX11_init_261 rfl (by decide) (by decide) ?_
  refine qb_cge dX11_init_263 (tgt := 279) rfl rfl (fun h => absurd h (by decide)) (fun _ => ?_)
  refine qb_aloadn dX11_init_266 rfl (i := 0) rfl rfl ?_
  refine qb_geta (c := 60) (b := 71) (sl := [none, some (some 61), none, some (some 62), some (some 63), some (some 64), some (some 65), some (some 66), some (some 67), none, some (some 68), none, some (some 69), none, some (some 70), some (some 71), some (some 72), some (some 73), none, some (some 74), some (some 75), some (some 76), some (some 77), some (some 78), none, some (some 79), some (some 80), some (some 81), some (some 82), none, none, none, none, none, some (some 83), some (some 84), some (some 85), some (some 86), none, none, none, none, none, none, none, none, none, none, some (some 87), some (some 88)]) dX11_init_267 rfl qf_X11_40 (by decide +kernel) rfl ?_
  refine qb_iloadn dX11_init_270 rfl (i := 1) rfl rfl ?_
  refine qb_iconst dX11_init_271 rfl (by decide) ?_
  refine zw_iast (c := 71) (n := 10) (hp' := zH zo123 hp) dX11_init_272 rfl (by decide +kernel) (by decide) rfl ?_
  refine qb_iinc (L' := [some (.inr (.inl 60)), some (.inl 1)]) dX11_init_273 rfl (i := 1) rfl ⟨by decide, by decide⟩ (by decide) rfl rfl ?_
  refine qb_goto dX11_init_276 (tgt := 260) rfl ?_
  refine qb_iloadn dX11_init_260 rfl (i := 1) rfl rfl ?_
  exact kk
def zo124 : List (Nat × Option (Int × Int)) := (71, some (1, (-1))) :: zo123
def zo125 : List (Nat × Option (Int × Int)) := (71, some (2, (-1))) :: zo124
theorem z13_mX11_init_8 {hp : qb_H} {Q : Option qb_V → qb_H → qb_Sh → Prop} (kk : qb_R mX11_init 28 10823 zs176 270 [some (.inr (.inl 60)), some (.inl 3)] [.inr (.inl 71)] (zH zo125 hp) Q) : qb_R mX11_init 28 10823 zs176 261 [some (.inr (.inl 60)), some (.inl 1)] [.inl 1] (zH zo123 hp) Q := by
  refine qb_bipush dX11_init_261 rfl (by decide) (by decide) ?_
  refine qb_cge dX11_init_263 (tgt := 279) rfl rfl (fun h => absurd h (by decide)) (fun _ => ?_)
  refine qb_aloadn dX11_init_266 rfl (i := 0) rfl rfl ?_
  refine qb_geta (c := 60) (b := 71) (sl := [none, some (some 61), none, some (some 62), some (some 63), some (some 64), some (some 65), some (some 66), some (some 67), none, some (some 68), none, some (some 69), none, some (some 70), some (some 71), some (some 72), some (some 73), none, some (some 74), some (some 75), some (some 76), some (some 77), some (some 78), none, some (some 79), some (some 80), some (some 81), some (some 82), none, none, none, none, none, some (some 83), some (some 84), some (some 85), some (some 86), none, none, none, none, none, none, none, none, none, none, some (some 87), some (some 88)]) dX11_init_267 rfl qf_X11_40 (by decide +kernel) rfl ?_
  refine qb_iloadn dX11_init_270 rfl (i := 1) rfl rfl ?_
  refine qb_iconst dX11_init_271 rfl (by decide) ?_
  refine zw_iast (c := 71) (n := 10) (hp' := zH zo124 hp) dX11_init_272 rfl (by decide +kernel) (by decide) rfl ?_
  refine qb_iinc (L' := [some (.inr (.inl 60)), some (.inl 2)]) dX11_init_273 rfl (i := 1) rfl ⟨by decide, by decide⟩ (by decide) rfl rfl ?_
  refine qb_goto dX11_init_276 (tgt := 260) rfl ?_
  refine qb_iloadn dX11_init_260 rfl (i := 1) rfl rfl ?_
  refine qb_bipush dX11_init_261 rfl (by decide) (by decide) ?_
  refine qb_cge dX11_init_263 (tgt := 279) rfl rfl (fun h => absurd h (by decide)) (fun _ => ?_)
  refine qb_aloadn dX11_init_266 rfl (i := 0) rfl rfl ?_
  refine qb_geta (c := 60) (b := 71) (sl := [none, some (some 61), none, some (some 62), some (some 63), some (some 64), some (some 65), some (some 66), some (some 67), none, some (some 68), none, some (some 69), none, some (some 70), some (some 71), some (some 72), some (some 73), none, some (some 74), some (some 75), some (some 76), some (some 77), some (some 78), none, some (some 79), some (some 80), some (some 81), some (some 82), none, none, none, none, none, some (some 83), some (some 84), some (some 85), some (some 86), none, none, none, none, none, none, none, none, none, none, some (some 87), some (some 88)]) dX11_init_267 rfl qf_X11_40 (by decide +kernel) rfl ?_
  refine qb_iloadn dX11_init_270 rfl (i := 1) rfl rfl ?_
  refine qb_iconst dX11_init_271 rfl (by decide) ?_
  refine zw_iast (c := 71) (n := 10) (hp' := zH zo125 hp) dX11_init_272 rfl (by decide +kernel) (by decide) rfl ?_
  refine qb_iinc (L' := [some (.inr (.inl 60)), some (.inl 3)]) dX11_init_273 rfl (i := 1) rfl ⟨by decide, by decide⟩ (by decide) rfl rfl ?_
  refine qb_goto dX11_init_276 (tgt := 260) rfl ?_
  refine qb_iloadn dX11_init_260 rfl (i := 1) rfl rfl ?_
  refine qb_bipush dX11_init_261 rfl (by decide) (by decide) ?_
  refine qb_cge dX11_init_263 (tgt := 279) rfl rfl (fun h => absurd h (by decide)) (fun _ => ?_)
  refine qb_aloadn dX11_init_266 rfl (i := 0) rfl rfl ?_
  refine qb_geta (c := 60) (b := 71) (sl := [none, some (some 61), none, some (some 62), some (some 63), some (some 64), some (some 65), some (some 66), some (some 67), none, some (some 68), none, some (some 69), none, some (some 70), some (some 71), some (some 72), some (some 73), none, some (some 74), some (some 75), some (some 76), some (some 77), some (some 78), none, some (some 79), some (some 80), some (some 81), some (some 82), none, none, none, none, none, some (some 83), some (some 84), some (some 85), some (some 86), none, none, none, none, none, none, none, none, none, none, some (some 87), some (some 88)]) dX11_init_267 rfl qf_X11_40 (by decide +kernel) rfl ?_
  exact kk
def zo126 : List (Nat × Option (Int × Int)) := (71, some (3, (-1))) :: zo125
def zo127 : List (Nat × Option (Int × Int)) := (71, some (4, (-1))) :: zo126
def zo128 : List (Nat × Option (Int × Int)) := (71, some (5, (-1))) :: zo127
theorem z13_mX11_init_9 {hp : qb_H} {Q : Option qb_V → qb_H → qb_Sh → Prop} (kk : qb_R mX11_init 28 10823 zs176 276 [some (.inr (.inl 60)), some (.inl 6)] [] (zH zo128 hp) Q) : qb_R mX11_init 28 10823 zs176 270 [some (.inr (.inl 60)), some (.inl 3)] [.inr (.inl 71)] (zH zo125 hp) Q := by
  refine qb_iloadn dX11_init_270 rfl (i := 1) rfl rfl ?_
  refine qb_iconst dX11_init_271 rfl (by decide) ?_
  refine zw_iast (c := 71) (n := 10) (hp' := zH zo126 hp) dX11_init_272 rfl (by decide +kernel) (by decide) rfl ?_
  refine qb_iinc (L' := [some (.inr (.inl 60)), some (.inl 4)]) dX11_init_273 rfl (i := 1) rfl ⟨by decide, by decide⟩ (by decide) rfl rfl ?_
  refine qb_goto dX11_init_276 (tgt := 260) rfl ?_
  refine qb_iloadn dX11_init_260 rfl (i := 1) rfl rfl ?_
  refine qb_bipush dX11_init_261 rfl (by decide) (by decide) ?_
  refine qb_cge dX11_init_263 (tgt := 279) rfl rfl (fun h => absurd h (by decide)) (fun _ => ?_)
  refine qb_aloadn dX11_init_266 rfl (i := 0) rfl rfl ?_
  refine qb_geta (c := 60) (b := 71) (sl := [none, some (some 61), none, some (some 62), some (some 63), some (some 64), some (some 65), some (some 66), some (some 67), none, some (some 68), none, some (some 69), none, some (some 70), some (some 71), some (some 72), some (some 73), none, some (some 74), some (some 75), some (some 76), some (some 77), some (some 78), none, some (some 79), some (some 80), some (some 81), some (some 82), none, none, none, none, none, some (some 83), some (some 84), some (some 85), some (some 86), none, none, none, none, none, none, none, none, none, none, some (some 87), some (some 88)]) dX11_init_267 rfl qf_X11_40 (by decide +kernel) rfl ?_
  refine qb_iloadn dX11_init_270 rfl (i := 1) rfl rfl ?_
  refine qb_iconst dX11_init_271 rfl (by decide) ?_
  refine zw_iast (c := 71) (n := 10) (hp' := zH zo127 hp) dX11_init_272 rfl (by decide +kernel) (by decide) rfl ?_
  refine qb_iinc (L' := [some (.inr (.inl 60)), some (.inl 5)]) dX11_init_273 rfl (i := 1) rfl ⟨by decide, by decide⟩ (by decide) rfl rfl ?_
  refine qb_goto dX11_init_276 (tgt := 260) rfl ?_
  refine qb_iloadn dX11_init_260 rfl (i := 1) rfl rfl ?_
  refine qb_bipush dX11_init_261 rfl (by decide) (by decide) ?_
  refine qb_cge dX11_init_263 (tgt := 279) rfl rfl (fun h => absurd h (by decide)) (fun _ => ?_)
  refine qb_aloadn dX11_init_266 rfl (i := 0) rfl rfl ?_
  refine qb_geta (c := 60) (b := 71) (sl := [none, some (some 61), none, some (some 62), some (some 63), some (some 64), some (some 65), some (some 66), some (some 67), none, some (some 68), none, some (some 69), none, some (some 70), some (some 71), some (some 72), some (some 73), none, some (some 74), some (some 75), some (some 76), some (some 77), some (some 78), none, some (some 79), some (some 80), some (some 81), some (some 82), none, none, none, none, none, some (some 83), some (some 84), some (some 85), some (some 86), none, none, none, none, none, none, none, none, none, none, some (some 87), some (some 88)]) dX11_init_267 rfl qf_X11_40 (by decide +kernel) rfl ?_
  refine qb_iloadn dX11_init_270 rfl (i := 1) rfl rfl ?_
  refine qb_iconst dX11_init_271 rfl (by decide) ?_
  refine zw_iast (c := 71) (n := 10) (hp' := zH zo128 hp) dX11_init_272 rfl (by decide +kernel) (by decide) rfl ?_
  refine qb_iinc (L' := [some (.inr (.inl 60)), some (.inl 6)]) dX11_init_273 rfl (i := 1) rfl ⟨by decide, by decide⟩ (by decide) rfl rfl ?_
  exact kk
def zo129 : List (Nat × Option (Int × Int)) := (71, some (6, (-1))) :: zo128
def zo130 : List (Nat × Option (Int × Int)) := (71, some (7, (-1))) :: zo129
theorem z13_mX11_init_10 {hp : qb_H} {Q : Option qb_V → qb_H → qb_Sh → Prop} (kk : qb_R mX11_init 28 10823 zs176 266 [some (.inr (.inl 60)), some (.inl 8)] [] (zH zo130 hp) Q) : qb_R mX11_init 28 10823 zs176 276 [some (.inr (.inl 60)), some (.inl 6)] [] (zH zo128 hp) Q := by
  refine qb_goto dX11_init_276 (tgt := 260) rfl ?_
  refine qb_iloadn dX11_init_260 rfl (i := 1) rfl rfl ?_
  refine qb_bipush dX11_init_261 rfl (by decide) (by decide) ?_
  refine qb_cge dX11_init_263 (tgt := 279) rfl rfl (fun h => absurd h (by decide)) (fun _ => ?_)
  refine qb_aloadn dX11_init_266 rfl (i := 0) rfl rfl ?_
  refine qb_geta (c := 60) (b := 71) (sl := [none, some (some 61), none, some (some 62), some (some 63), some (some 64), some (some 65), some (some 66), some (some 67), none, some (some 68), none, some (some 69), none, some (some 70), some (some 71), some (some 72), some (some 73), none, some (some 74), some (some 75), some (some 76), some (some 77), some (some 78), none, some (some 79), some (some 80), some (some 81), some (some 82), none, none, none, none, none, some (some 83), some (some 84), some (some 85), some (some 86), none, none, none, none, none, none, none, none, none, none, some (some 87), some (some 88)]) dX11_init_267 rfl qf_X11_40 (by decide +kernel) rfl ?_
  refine qb_iloadn dX11_init_270 rfl (i := 1) rfl rfl ?_
  refine qb_iconst dX11_init_271 rfl (by decide) ?_
  refine zw_iast (c := 71) (n := 10) (hp' := zH zo129 hp) dX11_init_272 rfl (by decide +kernel) (by decide) rfl ?_
  refine qb_iinc (L' := [some (.inr (.inl 60)), some (.inl 7)]) dX11_init_273 rfl (i := 1) rfl ⟨by decide, by decide⟩ (by decide) rfl rfl ?_
  refine qb_goto dX11_init_276 (tgt := 260) rfl ?_
  refine qb_iloadn dX11_init_260 rfl (i := 1) rfl rfl ?_
  refine qb_bipush dX11_init_261 rfl (by decide) (by decide) ?_
  refine qb_cge dX11_init_263 (tgt := 279) rfl rfl (fun h => absurd h (by decide)) (fun _ => ?_)
  refine qb_aloadn dX11_init_266 rfl (i := 0) rfl rfl ?_
  refine qb_geta (c := 60) (b := 71) (sl := [none, some (some 61), none, some (some 62), some (some 63), some (some 64), some (some 65), some (some 66), some (some 67), none, some (some 68), none, some (some 69), none, some (some 70), some (some 71), some (some 72), some (some 73), none, some (some 74), some (some 75), some (some 76), some (some 77), some (some 78), none, some (some 79), some (some 80), some (some 81), some (some 82), none, none, none, none, none, some (some 83), some (some 84), some (some 85), some (some 86), none, none, none, none, none, none, none, none, none, none, some (some 87), some (some 88)]) dX11_init_267 rfl qf_X11_40 (by decide +kernel) rfl ?_
  refine qb_iloadn dX11_init_270 rfl (i := 1) rfl rfl ?_
  refine qb_iconst dX11_init_271 rfl (by decide) ?_
  refine zw_iast (c := 71) (n := 10) (hp' := zH zo130 hp) dX11_init_272 rfl (by decide +kernel) (by decide) rfl ?_
  refine qb_iinc (L' := [some (.inr (.inl 60)), some (.inl 8)]) dX11_init_273 rfl (i := 1) rfl ⟨by decide, by decide⟩ (by decide) rfl rfl ?_
  refine qb_goto dX11_init_276 (tgt := 260) rfl ?_
  refine qb_iloadn dX11_init_260 rfl (i := 1) rfl rfl ?_
  refine qb_bipush dX11_init_261 rfl (by decide) (by decide) ?_
  refine qb_cge dX11_init_263 (tgt := 279) rfl rfl (fun h => absurd h (by decide)) (fun _ => ?_)
  exact kk
def zo131 : List (Nat × Option (Int × Int)) := (71, some (8, (-1))) :: zo130
def zo132 : List (Nat × Option (Int × Int)) := (71, some (9, (-1))) :: zo131
theorem z13_mX11_init_11 {hp : qb_H} {Q : Option qb_V → qb_H → qb_Sh → Prop} (kk : qb_R mX11_init 28 10823 zs176 284 [some (.inr (.inl 60)), some (.inl 0)] [.inl 7, .inl 0] (zH zo132 hp) Q) : qb_R mX11_init 28 10823 zs176 266 [some (.inr (.inl 60)), some (.inl 8)] [] (zH zo130 hp) Q := by
  refine qb_aloadn dX11_init_266 rfl (i := 0) rfl rfl ?_
  refine qb_geta (c := 60) (b := 71) (sl := [none, some (some 61), none, some (some 62), some (some 63), some (some 64), some (some 65), some (some 66), some (some 67), none, some (some 68), none, some (some 69), none, some (some 70), some (some 71), some (some 72), some (some 73), none, some (some 74), some (some 75), some (some 76), some (some 77), some (some 78), none, some (some 79), some (some 80), some (some 81), some (some 82), none, none, none, none, none, some (some 83), some (some 84), some (some 85), some (some 86), none, none, none, none, none, none, none, none, none, none, some (some 87), some (some 88)]) dX11_init_267 rfl qf_X11_40 (by decide +kernel) rfl ?_
  refine qb_iloadn dX11_init_270 rfl (i := 1) rfl rfl ?_
  refine qb_iconst dX11_init_271 rfl (by decide) ?_
  refine zw_iast (c := 71) (n := 10) (hp' := zH zo131 hp) dX11_init_272 rfl (by decide +kernel) (by decide) rfl ?_
  refine qb_iinc (L' := [some (.inr (.inl 60)), some (.inl 9)]) dX11_init_273 rfl (i := 1) rfl ⟨by decide, by decide⟩ (by decide) rfl rfl ?_
  refine qb_goto dX11_init_276 (tgt := 260) rfl ?_
  refine qb_iloadn dX11_init_260 rfl (i := 1) rfl rfl ?_
  refine qb_bipush dX11_init_261 rfl (by decide) (by decide) ?_
  refine qb_cge dX11_init_263 (tgt := 279) rfl rfl (fun h => absurd h (by decide)) (fun _ => ?_)
  refine qb_aloadn dX11_init_266 rfl (i := 0) rfl rfl ?_
  refine qb_geta (c := 60) (b := 71) (sl := [none, some (some 61), none, some (some 62), some (some 63), some (some 64), some (some 65), some (some 66), some (some 67), none, some (some 68), none, some (some 69), none, some (some 70), some (some 71), some (some 72), some (some 73), none, some (some 74), some (some 75), some (some 76), some (some 77), some (some 78), none, some (some 79), some (some 80), some (some 81), some (some 82), none, none, none, none, none, some (some 83), some (some 84), some (some 85), some (some 86), none, none, none, none, none, none, none, none, none, none, some (some 87), some (some 88)]) dX11_init_267 rfl qf_X11_40 (by decide +kernel) rfl ?_
  refine qb_iloadn dX11_init_270 rfl (i := 1) rfl rfl ?_
  refine qb_iconst dX11_init_271 rfl (by decide) ?_
  refine zw_iast (c := 71) (n := 10) (hp' := zH zo132 hp) dX11_init_272 rfl (by decide +kernel) (by decide) rfl ?_
  refine qb_iinc (L' := [some (.inr (.inl 60)), some (.inl 10)]) dX11_init_273 rfl (i := 1) rfl ⟨by decide, by decide⟩ (by decide) rfl rfl ?_
  refine qb_goto dX11_init_276 (tgt := 260) rfl ?_
  refine qb_iloadn dX11_init_260 rfl (i := 1) rfl rfl ?_
  refine qb_bipush dX11_init_261 rfl (by decide) (by decide) ?_
  refine qb_cge dX11_init_263 (tgt := 279) rfl rfl (fun _ => ?_) (fun h => absurd h (by decide))
  refine qb_iconst dX11_init_279 rfl (by decide) ?_
  refine qb_istoren dX11_init_280 rfl (i := 1) rfl (by decide) rfl rfl ?_
  refine qb_iloadn dX11_init_281 rfl (i := 1) rfl rfl ?_
  refine qb_bipush dX11_init_282 rfl (by decide) (by decide) ?_
  exact kk
def zo133 : List (Nat × Option (Int × Int)) := (67, some (0, 24)) :: zo132
theorem z13_mX11_init_12 {hp : qb_H} {Q : Option qb_V → qb_H → qb_Sh → Prop} (kk : qb_R mX11_init 28 10823 zs176 353 [some (.inr (.inl 60)), some (.inl 1)] [.inl 800, .inl 1, .inr (.inl 67)] (zH zo133 hp) Q) : qb_R mX11_init 28 10823 zs176 284 [some (.inr (.inl 60)), some (.inl 0)] [.inl 7, .inl 0] (zH zo132 hp) Q := by
  refine qb_cge dX11_init_284 (tgt := 360) rfl rfl (fun h => absurd h (by decide)) (fun _ => ?_)
  refine qb_aloadn dX11_init_287 rfl (i := 0) rfl rfl ?_
  refine qb_geta (c := 60) (b := 67) (sl := [none, some (some 61), none, some (some 62), some (some 63), some (some 64), some (some 65), some (some 66), some (some 67), none, some (some 68), none, some (some 69), none, some (some 70), some (some 71), some (some 72), some (some 73), none, some (some 74), some (some 75), some (some 76), some (some 77), some (some 78), none, some (some 79), some (some 80), some (some 81), some (some 82), none, none, none, none, none, some (some 83), some (some 84), some (some 85), some (some 86), none, none, none, none, none, none, none, none, none, none, some (some 87), some (some 88)]) dX11_init_288 rfl qf_X11_28 (by decide +kernel) rfl ?_
  refine qb_iloadn dX11_init_291 rfl (i := 1) rfl rfl ?_
  refine qb_iloadn dX11_init_292 rfl (i := 1) rfl rfl ?_
  refine qb_fne dX11_init_293 (tgt := 301) rfl rfl (fun h => absurd h (by decide)) (fun _ => ?_)
  refine qb_bipush dX11_init_296 rfl (by decide) (by decide) ?_
  refine qb_goto dX11_init_298 (tgt := 353) rfl ?_
  refine zw_iast (c := 67) (n := 7) (hp' := zH zo133 hp) dX11_init_353 rfl (by decide +kernel) (by decide) rfl ?_
  refine qb_iinc (L' := [some (.inr (.inl 60)), some (.inl 1)]) dX11_init_354 rfl (i := 1) rfl ⟨by decide, by decide⟩ (by decide) rfl rfl ?_
  refine qb_goto dX11_init_357 (tgt := 281) rfl ?_
  refine qb_iloadn dX11_init_281 rfl (i := 1) rfl rfl ?_
  refine qb_bipush dX11_init_282 rfl (by decide) (by decide) ?_
  refine qb_cge dX11_init_284 (tgt := 360) rfl rfl (fun h => absurd h (by decide)) (fun _ => ?_)
  refine qb_aloadn dX11_init_287 rfl (i := 0) rfl rfl ?_
  refine qb_geta (c := 60) (b := 67) (sl := [none, some (some 61), none, some (some 62), some (some 63), some (some 64), some (some 65), some (some 66), some (some 67), none, some (some 68), none, some (some 69), none, some (some 70), some (some 71), some (some 72), some (some 73), none, some (some 74), some (some 75), some (some 76), some (some 77), some (some 78), none, some (some 79), some (some 80), some (some 81), some (some 82), none, none, none, none, none, some (some 83), some (some 84), some (some 85), some (some 86), none, none, none, none, none, none, none, none, none, none, some (some 87), some (some 88)]) dX11_init_288 rfl qf_X11_28 (by decide +kernel) rfl ?_
  refine qb_iloadn dX11_init_291 rfl (i := 1) rfl rfl ?_
  refine qb_iloadn dX11_init_292 rfl (i := 1) rfl rfl ?_
  refine qb_fne dX11_init_293 (tgt := 301) rfl rfl (fun _ => ?_) (fun h => absurd h (by decide))
  refine qb_iloadn dX11_init_301 rfl (i := 1) rfl rfl ?_
  refine qb_iconst dX11_init_302 rfl (by decide) ?_
  refine qb_cne dX11_init_303 (tgt := 312) rfl rfl (fun h => absurd h (by decide)) (fun _ => ?_)
  refine qb_sipush dX11_init_306 rfl (by decide) (by decide) ?_
  refine qb_goto dX11_init_309 (tgt := 353) rfl ?_
  exact kk
def zo134 : List (Nat × Option (Int × Int)) := (67, some (1, 800)) :: zo133
def zo135 : List (Nat × Option (Int × Int)) := (67, some (2, 40)) :: zo134
theorem z13_mX11_init_13 {hp : qb_H} {Q : Option qb_V → qb_H → qb_Sh → Prop} (kk : qb_R mX11_init 28 10823 zs176 284 [some (.inr (.inl 60)), some (.inl 3)] [.inl 7, .inl 3] (zH zo135 hp) Q) : qb_R mX11_init 28 10823 zs176 353 [some (.inr (.inl 60)), some (.inl 1)] [.inl 800, .inl 1, .inr (.inl 67)] (zH zo133 hp) Q := by
  refine zw_iast (c := 67) (n := 7) (hp' := zH zo134 hp) dX11_init_353 rfl (by decide +kernel) (by decide) rfl ?_
  refine qb_iinc (L' := [some (.inr (.inl 60)), some (.inl 2)]) dX11_init_354 rfl (i := 1) rfl ⟨by decide, by decide⟩ (by decide) rfl rfl ?_
  refine qb_goto dX11_init_357 (tgt := 281) rfl ?_
  refine qb_iloadn dX11_init_281 rfl (i := 1) rfl rfl ?_
  refine qb_bipush dX11_init_282 rfl (by decide) (by decide) ?_
  refine qb_cge dX11_init_284 (tgt := 360) rfl rfl (fun h => absurd h (by decide)) (fun _ => ?_)
  refine qb_aloadn dX11_init_287 rfl (i := 0) rfl rfl ?_
  refine qb_geta (c := 60) (b := 67) (sl := [none, some (some 61), none, some (some 62), some (some 63), some (some 64), some (some 65), some (some 66), some (some 67), none, some (some 68), none, some (some 69), none, some (some 70), some (some 71), some (some 72), some (some 73), none, some (some 74), some (some 75), some (some 76), some (some 77), some (some 78), none, some (some 79), some (some 80), some (some 81), some (some 82), none, none, none, none, none, some (some 83), some (some 84), some (some 85), some (some 86), none, none, none, none, none, none, none, none, none, none, some (some 87), some (some 88)]) dX11_init_288 rfl qf_X11_28 (by decide +kernel) rfl ?_
  refine qb_iloadn dX11_init_291 rfl (i := 1) rfl rfl ?_
  refine qb_iloadn dX11_init_292 rfl (i := 1) rfl rfl ?_
  refine qb_fne dX11_init_293 (tgt := 301) rfl rfl (fun _ => ?_) (fun h => absurd h (by decide))
  refine qb_iloadn dX11_init_301 rfl (i := 1) rfl rfl ?_
  refine qb_iconst dX11_init_302 rfl (by decide) ?_
  refine qb_cne dX11_init_303 (tgt := 312) rfl rfl (fun _ => ?_) (fun h => absurd h (by decide))
  refine qb_iloadn dX11_init_312 rfl (i := 1) rfl rfl ?_
  refine qb_iconst dX11_init_313 rfl (by decide) ?_
  refine qb_cne dX11_init_314 (tgt := 322) rfl rfl (fun h => absurd h (by decide)) (fun _ => ?_)
  refine qb_bipush dX11_init_317 rfl (by decide) (by decide) ?_
  refine qb_goto dX11_init_319 (tgt := 353) rfl ?_
  refine zw_iast (c := 67) (n := 7) (hp' := zH zo135 hp) dX11_init_353 rfl (by decide +kernel) (by decide) rfl ?_
  refine qb_iinc (L' := [some (.inr (.inl 60)), some (.inl 3)]) dX11_init_354 rfl (i := 1) rfl ⟨by decide, by decide⟩ (by decide) rfl rfl ?_
  refine qb_goto dX11_init_357 (tgt := 281) rfl ?_
  refine qb_iloadn dX11_init_281 rfl (i := 1) rfl rfl ?_
  refine qb_bipush dX11_init_282 rfl (by decide) (by decide) ?_
  exact kk
def zo136 : List (Nat × Option (Int × Int)) := (67, some (3, 10)) :: zo135
theorem z13_mX11_init_14 {hp : qb_H} {Q : Option qb_V → qb_H → qb_Sh → Prop} (kk : qb_R mX11_init 28 10823 zs176 288 [some (.inr (.inl 60)), some (.inl 4)] [.inr (.inl 60)] (zH zo136 hp) Q) : qb_R mX11_init 28 10823 zs176 284 [some (.inr (.inl 60)), some (.inl 3)] [.inl 7, .inl 3] (zH zo135 hp) Q := by
  refine qb_cge dX11_init_284 (tgt := 360) rfl rfl (fun h => absurd h (by decide)) (fun _ => ?_)
  refine qb_aloadn dX11_init_287 rfl (i := 0) rfl rfl ?_
  refine qb_geta (c := 60) (b := 67) (sl := [none, some (some 61), none, some (some 62), some (some 63), some (some 64), some (some 65), some (some 66), some (some 67), none, some (some 68), none, some (some 69), none, some (some 70), some (some 71), some (some 72), some (some 73), none, some (some 74), some (some 75), some (some 76), some (some 77), some (some 78), none, some (some 79), some (some 80), some (some 81), some (some 82), none, none, none, none, none, some (some 83), some (some 84), some (some 85), some (some 86), none, none, none, none, none, none, none, none, none, none, some (some 87), some (some 88)]) dX11_init_288 rfl qf_X11_28 (by decide +kernel) rfl ?_
  refine qb_iloadn dX11_init_291 rfl (i := 1) rfl rfl ?_
  refine qb_iloadn dX11_init_292 rfl (i := 1) rfl rfl ?_
  refine qb_fne dX11_init_293 (tgt := 301) rfl rfl (fun _ => ?_) (fun h => absurd h (by decide))
  refine qb_iloadn dX11_init_301 rfl (i := 1) rfl rfl ?_
  refine qb_iconst dX11_init_302 rfl (by decide) ?_
  refine qb_cne dX11_init_303 (tgt := 312) rfl rfl (fun _ => ?_) (fun h => absurd h (by decide))
  refine qb_iloadn dX11_init_312 rfl (i := 1) rfl rfl ?_
  refine qb_iconst dX11_init_313 rfl (by decide) ?_
  refine qb_cne dX11_init_314 (tgt := 322) rfl rfl (fun _ => ?_) (fun h => absurd h (by decide))
  refine qb_iloadn dX11_init_322 rfl (i := 1) rfl rfl ?_
  refine qb_iconst dX11_init_323 rfl (by decide) ?_
  refine qb_cne dX11_init_324 (tgt := 332) rfl rfl (fun h => absurd h (by decide)) (fun _ => ?_)
  refine qb_bipush dX11_init_327 rfl (by decide) (by decide) ?_
  refine qb_goto dX11_init_329 (tgt := 353) rfl ?_
  refine zw_iast (c := 67) (n := 7) (hp' := zH zo136 hp) dX11_init_353 rfl (by decide +kernel) (by decide) rfl ?_
  refine qb_iinc (L' := [some (.inr (.inl 60)), some (.inl 4)]) dX11_init_354 rfl (i := 1) rfl ⟨by decide, by decide⟩ (by decide) rfl rfl ?_
  refine qb_goto dX11_init_357 (tgt := 281) rfl ?_
  refine qb_iloadn dX11_init_281 rfl (i := 1) rfl rfl ?_
  refine qb_bipush dX11_init_282 rfl (by decide) (by decide) ?_
  refine qb_cge dX11_init_284 (tgt := 360) rfl rfl (fun h => absurd h (by decide)) (fun _ => ?_)
  refine qb_aloadn dX11_init_287 rfl (i := 0) rfl rfl ?_
  exact kk
def zo137 : List (Nat × Option (Int × Int)) := (67, some (4, 1000)) :: zo136
theorem z13_mX11_init_15 {hp : qb_H} {Q : Option qb_V → qb_H → qb_Sh → Prop} (kk : qb_R mX11_init 28 10823 zs176 287 [some (.inr (.inl 60)), some (.inl 5)] [] (zH zo137 hp) Q) : qb_R mX11_init 28 10823 zs176 288 [some (.inr (.inl 60)), some (.inl 4)] [.inr (.inl 60)] (zH zo136 hp) Q := by
  refine qb_geta (c := 60) (b := 67) (sl := [none, some (some 61), none, some (some 62), some (some 63), some (some 64), some (some 65), some (some 66), some (some 67), none, some (some 68), none, some (some 69), none, some (some 70), some (some 71), some (some 72), some (some 73), none, some (some 74), some (some 75), some (some 76), some (some 77), some (some 78), none, some (some 79), some (some 80), some (some 81), some (some 82), none, none, none, none, none, some (some 83), some (some 84), some (some 85), some (some 86), none, none, none, none, none, none, none, none, none, none, some (some 87), some (some 88)]) dX11_init_288 rfl qf_X11_28 (by decide +kernel) rfl ?_
  refine qb_iloadn dX11_init_291 rfl (i := 1) rfl rfl ?_
  refine qb_iloadn dX11_init_292 rfl (i := 1) rfl rfl ?_
  refine qb_fne dX11_init_293 (tgt := 301) rfl rfl (fun _ => ?_) (fun h => absurd h (by decide))
  refine qb_iloadn dX11_init_301 rfl (i := 1) rfl rfl ?_
  refine qb_iconst dX11_init_302 rfl (by decide) ?_
  refine qb_cne dX11_init_303 (tgt := 312) rfl rfl (fun _ => ?_) (fun h => absurd h (by decide))
  refine qb_iloadn dX11_init_312 rfl (i := 1) rfl rfl ?_
  refine qb_iconst dX11_init_313 rfl (by decide) ?_
  refine qb_cne dX11_init_314 (tgt := 322) rfl rfl (fun _ => ?_) (fun h => absurd h (by decide))
  refine qb_iloadn dX11_init_322 rfl (i := 1) rfl rfl ?_
  refine qb_iconst dX11_init_323 rfl (by decide) ?_
  refine qb_cne dX11_init_324 (tgt := 332) rfl rfl (fun _ => ?_) (fun h => absurd h (by decide))
  refine qb_iloadn dX11_init_332 rfl (i := 1) rfl rfl ?_
  refine qb_iconst dX11_init_333 rfl (by decide) ?_
  refine qb_cne dX11_init_334 (tgt := 343) rfl rfl (fun h => absurd h (by decide)) (fun _ => ?_)
  refine qb_sipush dX11_init_337 rfl (by decide) (by decide) ?_
  refine qb_goto dX11_init_340 (tgt := 353) rfl ?_
  refine zw_iast (c := 67) (n := 7) (hp' := zH zo137 hp) dX11_init_353 rfl (by decide +kernel) (by decide) rfl ?_
  refine qb_iinc (L' := [some (.inr (.inl 60)), some (.inl 5)]) dX11_init_354 rfl (i := 1) rfl ⟨by decide, by decide⟩ (by decide) rfl rfl ?_
  refine qb_goto dX11_init_357 (tgt := 281) rfl ?_
  refine qb_iloadn dX11_init_281 rfl (i := 1) rfl rfl ?_
  refine qb_bipush dX11_init_282 rfl (by decide) (by decide) ?_
  refine qb_cge dX11_init_284 (tgt := 360) rfl rfl (fun h => absurd h (by decide)) (fun _ => ?_)
  exact kk
def zo138 : List (Nat × Option (Int × Int)) := (67, some (5, 5)) :: zo137
theorem z13_mX11_init_16 {hp : qb_H} {Q : Option qb_V → qb_H → qb_Sh → Prop} (kk : qb_R mX11_init 28 10823 zs176 357 [some (.inr (.inl 60)), some (.inl 6)] [] (zH zo138 hp) Q) : qb_R mX11_init 28 10823 zs176 287 [some (.inr (.inl 60)), some (.inl 5)] [] (zH zo137 hp) Q := by
  refine qb_aloadn dX11_init_287 rfl (i := 0) rfl rfl ?_
  refine qb_geta (c := 60) (b := 67) (sl := [none, some (some 61), none, some (some 62), some (some 63), some (some 64), some (some 65), some (some 66), some (some 67), none, some (some 68), none, some (some 69), none, some (some 70), some (some 71), some (some 72), some (some 73), none, some (some 74), some (some 75), some (some 76), some (some 77), some (some 78), none, some (some 79), some (some 80), some (some 81), some (some 82), none, none, none, none, none, some (some 83), some (some 84), some (some 85), some (some 86), none, none, none, none, none, none, none, none, none, none, some (some 87), some (some 88)]) dX11_init_288 rfl qf_X11_28 (by decide +kernel) rfl ?_
  refine qb_iloadn dX11_init_291 rfl (i := 1) rfl rfl ?_
  refine qb_iloadn dX11_init_292 rfl (i := 1) rfl rfl ?_
  refine qb_fne dX11_init_293 (tgt := 301) rfl rfl (fun _ => ?_) (fun h => absurd h (by decide))
  refine qb_iloadn dX11_init_301 rfl (i := 1) rfl rfl ?_
  refine qb_iconst dX11_init_302 rfl (by decide) ?_
  refine qb_cne dX11_init_303 (tgt := 312) rfl rfl (fun _ => ?_) (fun h => absurd h (by decide))
  refine qb_iloadn dX11_init_312 rfl (i := 1) rfl rfl ?_
  refine qb_iconst dX11_init_313 rfl (by decide) ?_
  refine qb_cne dX11_init_314 (tgt := 322) rfl rfl (fun _ => ?_) (fun h => absurd h (by decide))
  refine qb_iloadn dX11_init_322 rfl (i := 1) rfl rfl ?_
  refine qb_iconst dX11_init_323 rfl (by decide) ?_
  refine qb_cne dX11_init_324 (tgt := 332) rfl rfl (fun _ => ?_) (fun h => absurd h (by decide))
  refine qb_iloadn dX11_init_332 rfl (i := 1) rfl rfl ?_
  refine qb_iconst dX11_init_333 rfl (by decide) ?_
  refine qb_cne dX11_init_334 (tgt := 343) rfl rfl (fun _ => ?_) (fun h => absurd h (by decide))
  refine qb_iloadn dX11_init_343 rfl (i := 1) rfl rfl ?_
  refine qb_iconst dX11_init_344 rfl (by decide) ?_
  refine qb_cne dX11_init_345 (tgt := 352) rfl rfl (fun h => absurd h (by decide)) (fun _ => ?_)
  refine qb_iconst dX11_init_348 rfl (by decide) ?_
  refine qb_goto dX11_init_349 (tgt := 353) rfl ?_
  refine zw_iast (c := 67) (n := 7) (hp' := zH zo138 hp) dX11_init_353 rfl (by decide +kernel) (by decide) rfl ?_
  refine qb_iinc (L' := [some (.inr (.inl 60)), some (.inl 6)]) dX11_init_354 rfl (i := 1) rfl ⟨by decide, by decide⟩ (by decide) rfl rfl ?_
  exact kk
theorem z13_mX11_init_17 {hp : qb_H} {Q : Option qb_V → qb_H → qb_Sh → Prop} (kk : qb_R mX11_init 28 10823 zs176 352 [some (.inr (.inl 60)), some (.inl 6)] [.inl 6, .inr (.inl 67)] (zH zo138 hp) Q) : qb_R mX11_init 28 10823 zs176 357 [some (.inr (.inl 60)), some (.inl 6)] [] (zH zo138 hp) Q := by
  refine qb_goto dX11_init_357 (tgt := 281) rfl ?_
  refine qb_iloadn dX11_init_281 rfl (i := 1) rfl rfl ?_
  refine qb_bipush dX11_init_282 rfl (by decide) (by decide) ?_
  refine qb_cge dX11_init_284 (tgt := 360) rfl rfl (fun h => absurd h (by decide)) (fun _ => ?_)
  refine qb_aloadn dX11_init_287 rfl (i := 0) rfl rfl ?_
  refine qb_geta (c := 60) (b := 67) (sl := [none, some (some 61), none, some (some 62), some (some 63), some (some 64), some (some 65), some (some 66), some (some 67), none, some (some 68), none, some (some 69), none, some (some 70), some (some 71), some (some 72), some (some 73), none, some (some 74), some (some 75), some (some 76), some (some 77), some (some 78), none, some (some 79), some (some 80), some (some 81), some (some 82), none, none, none, none, none, some (some 83), some (some 84), some (some 85), some (some 86), none, none, none, none, none, none, none, none, none, none, some (some 87), some (some 88)]) dX11_init_288 rfl qf_X11_28 (by decide +kernel) rfl ?_
  refine qb_iloadn dX11_init_291 rfl (i := 1) rfl rfl ?_
  refine qb_iloadn dX11_init_292 rfl (i := 1) rfl rfl ?_
  refine qb_fne dX11_init_293 (tgt := 301) rfl rfl (fun _ => ?_) (fun h => absurd h (by decide))
  refine qb_iloadn dX11_init_301 rfl (i := 1) rfl rfl ?_
  refine qb_iconst dX11_init_302 rfl (by decide) ?_
  refine qb_cne dX11_init_303 (tgt := 312) rfl rfl (fun _ => ?_) (fun h => absurd h (by decide))
  refine qb_iloadn dX11_init_312 rfl (i := 1) rfl rfl ?_
  refine qb_iconst dX11_init_313 rfl (by decide) ?_
  refine qb_cne dX11_init_314 (tgt := 322) rfl rfl (fun _ => ?_) (fun h => absurd h (by decide))
  refine qb_iloadn dX11_init_322 rfl (i := 1) rfl rfl ?_
  refine qb_iconst dX11_init_323 rfl (by decide) ?_
  refine qb_cne dX11_init_324 (tgt := 332) rfl rfl (fun _ => ?_) (fun h => absurd h (by decide))
  refine qb_iloadn dX11_init_332 rfl (i := 1) rfl rfl ?_
  refine qb_iconst dX11_init_333 rfl (by decide) ?_
  refine qb_cne dX11_init_334 (tgt := 343) rfl rfl (fun _ => ?_) (fun h => absurd h (by decide))
  refine qb_iloadn dX11_init_343 rfl (i := 1) rfl rfl ?_
  refine qb_iconst dX11_init_344 rfl (by decide) ?_
  refine qb_cne dX11_init_345 (tgt := 352) rfl rfl (fun _ => ?_) (fun h => absurd h (by decide))
  exact kk
def zo139 : List (Nat × Option (Int × Int)) := (67, some (6, 4)) :: zo138
theorem z13_mX11_init_18 {hp : qb_H} {Q : Option qb_V → qb_H → qb_Sh → Prop} (kk : Q none (zH zo139 hp) zs176) : qb_R mX11_init 28 10823 zs176 352 [some (.inr (.inl 60)), some (.inl 6)] [.inl 6, .inr (.inl 67)] (zH zo138 hp) Q := by
  refine qb_iconst dX11_init_352 rfl (by decide) ?_
  refine zw_iast (c := 67) (n := 7) (hp' := zH zo139 hp) dX11_init_353 rfl (by decide +kernel) (by decide) rfl ?_
  refine qb_iinc (L' := [some (.inr (.inl 60)), some (.inl 7)]) dX11_init_354 rfl (i := 1) rfl ⟨by decide, by decide⟩ (by decide) rfl rfl ?_
  refine qb_goto dX11_init_357 (tgt := 281) rfl ?_
  refine qb_iloadn dX11_init_281 rfl (i := 1) rfl rfl ?_
  refine qb_bipush dX11_init_282 rfl (by decide) (by decide) ?_
  refine qb_cge dX11_init_284 (tgt := 360) rfl rfl (fun _ => ?_) (fun h => absurd h (by decide))
  exact qb_vret dX11_init_360 rfl (by decide) kk
theorem z13_mX11_init {hp : qb_H} {Q : Option qb_V → qb_H → qb_Sh → Prop} (kk : Q none (zH zo139 hp) zs176) : qb_R mX11_init 0 0 zs120 0 [some (.inr (.inl 60)), none] [] (zH zo86 hp) Q := z13_mX11_init_0 (z13_mX11_init_1 (z13_mX11_init_2 (z13_mX11_init_3 (z13_mX11_init_4 (z13_mX11_init_5 (z13_mX11_init_6 (z13_mX11_init_7 (z13_mX11_init_8 (z13_mX11_init_9 (z13_mX11_init_10 (z13_mX11_init_11 (z13_mX11_init_12 (z13_mX11_init_13 (z13_mX11_init_14 (z13_mX11_init_15 (z13_mX11_init_16 (z13_mX11_init_17 (z13_mX11_init_18 kk))))))))))))))))))
theorem z0_mL_law_2 {hp : qb_H} {Q : Option qb_V → qb_H → qb_Sh → Prop} (kk : qb_R mL_law 89 14813 zs176 18 [some (.inr (.inl 1002)), some (.inr (.inl 0)), some (.inr (.inl 60)), some (.inl 0)] [] (zH zo139 hp) Q) : qb_R mL_law 61 3990 zs120 12 [some (.inr (.inl 1002)), some (.inr (.inl 0)), none, none] [.inr (.inl 60), .inr (.inl 60)] (zH zo86 hp) Q := by
  refine qb_callI dL_law_12 qe_mL_law_mX11_init (as := []) (b := 60) rfl rfl rfl (by decide) (by decide) (z13_mX11_init (hp := hp) ?_)
  show qb_R mL_law 89 14813 zs176 15 [some (.inr (.inl 1002)), some (.inr (.inl 0)), none, none] [.inr (.inl 60)] (zH zo139 hp) Q
  refine qb_astoren dL_law_15 rfl (i := 2) rfl (by decide) rfl rfl ?_
  refine qb_iconst dL_law_16 rfl (by decide) ?_
  refine qb_istoren dL_law_17 rfl (i := 3) rfl (by decide) rfl rfl ?_
  exact kk
theorem z0_mL_law {hp : qb_H} {Q : Option qb_V → qb_H → qb_Sh → Prop} (kk : qb_R mL_law 89 14813 zs176 18 [some (.inr (.inl 1002)), some (.inr (.inl 0)), some (.inr (.inl 60)), some (.inl 0)] [] (zH zo139 hp) Q) : qb_R mL_law 0 0 zs0 0 [some (.inr (.inl 1002)), none, none, none] [] (zH zo0 hp) Q := z0_mL_law_0 (z0_mL_law_1 (z0_mL_law_2 kk))
theorem zs_end : zs176 = qb_sh := by decide +kernel
