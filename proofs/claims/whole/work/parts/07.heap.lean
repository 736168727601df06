/-! the classes' words; rows of the heap, of calls (wip/whole/gen/rows2.py) -/
theorem qb_uX0 : ∀ w ∈ u_ws RX0 TX0 7, w ∈ qb_wg := qb_wg_pos [114, 116, 118, 120, 122, 124, 126] (by decide +kernel) (by decide +kernel)
theorem qb_uX1 : ∀ w ∈ u_ws RX1 TX1 3, w ∈ qb_wg := qb_wg_pos [294, 296, 298] (by decide +kernel) (by decide +kernel)
theorem qb_uX2 : ∀ w ∈ u_ws RX2 TX2 10, w ∈ qb_wg := qb_wg_pos [214, 216, 218, 220, 222, 224, 226, 228, 230, 232] (by decide +kernel) (by decide +kernel)
theorem qb_uX3 : ∀ w ∈ u_ws RX3 TX3 2, w ∈ qb_wg := qb_wg_pos [94, 96] (by decide +kernel) (by decide +kernel)
theorem qb_uX4 : ∀ w ∈ u_ws RX4 TX4 5, w ∈ qb_wg := qb_wg_pos [367, 369, 371, 373, 375] (by decide +kernel) (by decide +kernel)
theorem qb_uX5 : ∀ w ∈ u_ws RX5 TX5 5, w ∈ qb_wg := qb_wg_pos [313, 315, 317, 319, 321] (by decide +kernel) (by decide +kernel)
theorem qb_uX6 : ∀ w ∈ u_ws RX6 TX6 6, w ∈ qb_wg := qb_wg_pos [271, 273, 275, 277, 279, 281] (by decide +kernel) (by decide +kernel)
theorem qb_uX7 : ∀ w ∈ u_ws RX7 TX7 14, w ∈ qb_wg := qb_wg_pos [161, 163, 165, 167, 169, 171, 173, 175, 177, 179, 181, 183, 185, 187] (by decide +kernel) (by decide +kernel)
theorem qb_uX8 : ∀ w ∈ u_ws RX8 TX8 5, w ∈ qb_wg := qb_wg_pos [247, 249, 251, 253, 255] (by decide +kernel) (by decide +kernel)
theorem qb_uX9 : ∀ w ∈ u_ws RX9 TX9 6, w ∈ qb_wg := qb_wg_pos [339, 341, 343, 345, 347, 349] (by decide +kernel) (by decide +kernel)
theorem qb_uX10 : ∀ w ∈ u_ws RX10 TX10 13, w ∈ qb_wg := qb_wg_pos [391, 393, 395, 397, 399, 401, 403, 405, 407, 409, 411, 413, 415] (by decide +kernel) (by decide +kernel)
theorem qb_uX11 : ∀ w ∈ u_ws RX11 TX11 50, w ∈ qb_wg := qb_wg_pos [961, 963, 965, 967, 969, 971, 973, 975, 977, 979, 981, 983, 985, 987, 989, 991, 993, 995, 997, 999, 1001, 1003, 1005, 1007, 1009, 1011, 1013, 1015, 1017, 1019, 1021, 1023, 1025, 1027, 1029, 1031, 1033, 1035, 1037, 1039, 1041, 1043, 1045, 1047, 1049, 1051, 1053, 1055, 1057, 1059] (by decide +kernel) (by decide +kernel)
/-- what stands of a class: its words, its fields' types, their names -/
def qb_cok (C : String) (Tb : u_T) (N : Nat) : Prop := (∀ w ∈ u_ws C Tb N, w ∈ qb_wg) ∧ (∃ ty : Nat → FieldType, ∀ k, k < N → parseFieldDescriptor (Tb k).2.2.1 = some (ty k)) ∧ (∀ a, a < N → ∀ b, b < N → a ≠ b → (Tb a).2.1 ≠ (Tb b).2.1)
theorem qb_cls : ∀ (ci : Nat) (q : vw_C), vwCl[ci]? = some q → qb_cok q.1 q.2.1 q.2.2 := by
  intro ci q h
  match ci, h with
  | 0, h => cases h; exact ⟨qb_uX0, ⟨tyX0, tyX0_ok⟩, nmX0⟩
  | 1, h => cases h; exact ⟨qb_uX1, ⟨tyX1, tyX1_ok⟩, nmX1⟩
  | 2, h => cases h; exact ⟨qb_uX2, ⟨tyX2, tyX2_ok⟩, nmX2⟩
  | 3, h => cases h; exact ⟨qb_uX3, ⟨tyX3, tyX3_ok⟩, nmX3⟩
  | 4, h => cases h; exact ⟨qb_uX4, ⟨tyX4, tyX4_ok⟩, nmX4⟩
  | 5, h => cases h; exact ⟨qb_uX5, ⟨tyX5, tyX5_ok⟩, nmX5⟩
  | 6, h => cases h; exact ⟨qb_uX6, ⟨tyX6, tyX6_ok⟩, nmX6⟩
  | 7, h => cases h; exact ⟨qb_uX7, ⟨tyX7, tyX7_ok⟩, nmX7⟩
  | 8, h => cases h; exact ⟨qb_uX8, ⟨tyX8, tyX8_ok⟩, nmX8⟩
  | 9, h => cases h; exact ⟨qb_uX9, ⟨tyX9, tyX9_ok⟩, nmX9⟩
  | 10, h => cases h; exact ⟨qb_uX10, ⟨tyX10, tyX10_ok⟩, nmX10⟩
  | 11, h => cases h; exact ⟨qb_uX11, ⟨tyX11, tyX11_ok⟩, nmX11⟩
  | n + 12, h => simp [vwCl] at h
/-- a field by its pool number, in a method of 'own': class, place, final, type -/
def qb_FL (own : String) (idx ci k : Nat) (fin : Bool) (ty : FieldType) : Prop := ∃ (C : String) (Tb : u_T) (N : Nat), vwCl[ci]? = some (C, Tb, N) ∧ k < N ∧ Cond.fieldLink own idx (Tb k).1 (Tb k).2.1 (Tb k).2.2.1 ∈ qb_wg ∧ (Tb k).2.2.2 = fin ∧ parseFieldDescriptor (Tb k).2.2.1 = some ty
section
variable {M : qb_M} {cs ss : Nat} {sh : qb_Sh} {pc : Nat} {L : List (Option qb_V)} {st : List qb_V} {hp : qb_H} {Q : Option qb_V → qb_H → qb_Sh → Prop}
theorem qb_geti {pc' : Nat} {idx ci k c : Nat} {fin : Bool} {ty : FieldType} {sl : List (Option (Option Nat))} (d : decode (qb_by M) pc = .ok (.getfield idx, 3)) (hpc : pc + 3 = pc') (f : qb_FL (qb_nm M).cls idx ci k fin ty) (hs : sh[c]? = some (.inl (ci, sl))) (hk : sl[k]? = some none) {v : Int} (hv : hp c (k : Int) = v) (kk : qb_R M cs ss sh pc' L (.inl v :: st) hp Q) : qb_R M cs ss sh pc L (.inr (.inl c) :: st) hp Q := by
  subst hpc
  subst hv
  intro p l e s m args below meth cd D cI S n0 ad0 ad A H locs ls hC hW hS hL hst hN
  obtain ⟨C, Tb, N, hc, hkN, hl, -⟩ := f
  have h2 := qb_st1 hst
  refine va_get (a := ad c) (v := .int (Int32.ofInt (hp c k))) hC.1 hC.2.1 hC.2.2.2.2.2.2.2.1 (qb_cls ci _ hc).1 hC.2.2.2.2.2.2.1 hC.2.2.2.2.2.2.2.2.1 hW.1 c (qb_ws_at hs) hc k hkN (hC.2.2.2.2.2.2.2.1 _ hl) (fun _ h => h) (qb_fs_at hk) d ?_
  exact kk p l e s m args below meth cd D cI S n0 ad0 ad A H locs ls hC hW hS hL (qb_stc (a := .inl (hp c (k : Int))) (hW.2.2.1 c k) h2.2) hN
theorem qb_geta {pc' : Nat} {idx ci k c b : Nat} {fin : Bool} {ty : FieldType} {sl : List (Option (Option Nat))} (d : decode (qb_by M) pc = .ok (.getfield idx, 3)) (hpc : pc + 3 = pc') (f : qb_FL (qb_nm M).cls idx ci k fin ty) (hs : sh[c]? = some (.inl (ci, sl))) (hk : sl[k]? = some (some (some b))) (kk : qb_R M cs ss sh pc' L (.inr (.inl b) :: st) hp Q) : qb_R M cs ss sh pc L (.inr (.inl c) :: st) hp Q := by
  subst hpc
  intro p l e s m args below meth cd D cI S n0 ad0 ad A H locs ls hC hW hS hL hst hN
  obtain ⟨C, Tb, N, hc, hkN, hl, -⟩ := f
  have h2 := qb_st1 hst
  refine va_get (a := ad c) (v := .ref (ad b)) hC.1 hC.2.1 hC.2.2.2.2.2.2.2.1 (qb_cls ci _ hc).1 hC.2.2.2.2.2.2.1 hC.2.2.2.2.2.2.2.2.1 hW.1 c (qb_ws_at hs) hc k hkN (hC.2.2.2.2.2.2.2.1 _ hl) (fun _ h => h) (qb_fs_at hk) d ?_
  exact kk p l e s m args below meth cd D cI S n0 ad0 ad A H locs ls hC hW hS hL (qb_stc (a := .inr (.inl b)) (hW.2.2.2.2 c ci sl hs k b hk) h2.2) hN
theorem qb_Nst {S : qb_S} {n0 : Nat} {ad0 ad : Nat → Nat} {hp : qb_H} {sh : qb_Sh} (h : qb_N S n0 ad0 ad hp sh) {c : Nat} {i x : Int} (hc : c < sh.length) (hw : qb_wf sh) : qb_N S n0 ad0 ad (qb_st hp c i x) sh := by
  have h1 := hw.1
  exact ⟨h.1, h.2.1, h.2.2.1, (qb_st_ne (by omega)).trans h.2.2.2.1, (qb_st_ne (by omega)).trans h.2.2.2.2.1, h.2.2.2.2.2⟩
theorem qb_puti {pc' : Nat} {idx ci k c : Nat} {ty : FieldType} {sl : List (Option (Option Nat))} {x : Int} (d : decode (qb_by M) pc = .ok (.putfield idx, 3)) (hpc : pc + 3 = pc') (f : qb_FL (qb_nm M).cls idx ci k false ty) (hty : ty = .int ∨ (ty = .boolean ∧ (x = 0 ∨ x = 1))) (hs : sh[c]? = some (.inl (ci, sl))) (hk : sl[k]? = some none) {hp' : qb_H} (hh : qb_st hp c (k : Int) x = hp') (kk : qb_R M cs ss sh pc' L (st) hp' Q) : qb_R M cs ss sh pc L (.inl x :: .inr (.inl c) :: st) hp Q := by
  subst hpc
  subst hh
  intro p l e s m args below meth cd D cI S n0 ad0 ad A H locs ls hC hW hS hL hst hN
  obtain ⟨C, Tb, N, hc, hkN, hl, hfin, htp⟩ := f
  have h2 := qb_st2 hst
  obtain ⟨ty0, hty0⟩ := (qb_cls ci _ hc).2.1
  have hlen : k < sl.length := (List.getElem?_eq_some_iff.mp hk).1
  have hn : narrow ty (.int (Int32.ofInt x)) = .int (Int32.ofInt x) ∧ fits ty (.int (Int32.ofInt x)) = true := by
    rcases hty with rfl | ⟨rfl, rfl | rfl⟩
    · exact ⟨rfl, rfl⟩
    · exact ⟨rfl, rfl⟩
    · exact ⟨rfl, rfl⟩
  refine va_put (a := ad c) (v := .int (Int32.ofInt x)) (ty := ty) hC.1 hC.2.1 hC.2.2.2.2.2.2.2.1 (qb_cls ci _ hc).1 ty0 hty0 (qb_cls ci _ hc).2.2 hC.2.2.2.2.2.2.1 hC.2.2.2.2.2.2.2.2.1 hW.1 hW.2.1 hS c (qb_ws_at hs) hc k hkN (hC.2.2.2.2.2.2.2.1 _ hl) (fun _ h => h) hfin htp hn.1 hn.2 (by simpa [qb_fs] using hlen) d (fun H1 locs1 hP1 hD1 hS1 => ?_)
  rw [qb_ws_put hs hk] at hP1 hD1
  exact kk p l e s m args below meth cd D cI S n0 ad0 ad A H1 locs1 ls hC ⟨hP1, hD1, qb_st_in hW.2.2.1 h2.1, hW.2.2.2⟩ hS1 hL h2.2.2 (qb_Nst hN (List.getElem?_eq_some_iff.mp hs).1 hW.2.2.2)
theorem qb_idx {i : Int} {n : Nat} (hi : qb_in i) (h0 : 0 ≤ i) (h1 : i < n) : vp_in (Int32.ofInt i) n ∧ (((Int32.ofInt i).toNatClampNeg : Nat) : Int) = i := by
  refine ⟨vp_in_iff.mpr ⟨by rw [qb_toI hi]; exact h0, by rw [qb_toI hi]; exact h1⟩, ?_⟩
  show (((Int32.ofInt i).toInt.toNat : Nat) : Int) = i
  rw [qb_toI hi]; omega
theorem qb_iald {pc' : Nat} {c n : Nat} {i : Int} (d : decode (qb_by M) pc = .ok (.iaload, 1)) (hpc : pc + 1 = pc') (hs : sh[c]? = some (.inr n)) (h0 : 0 ≤ i) (h1 : i < (n : Int)) {v : Int} (hv : hp c i = v) (kk : qb_R M cs ss sh pc' L (.inl v :: st) hp Q) : qb_R M cs ss sh pc L (.inl i :: .inr (.inl c) :: st) hp Q := by
  subst hpc
  subst hv
  intro p l e s m args below meth cd D cI S n0 ad0 ad A H locs ls hC hW hS hL hst hN
  have h2 := qb_st2 hst
  have h3 := qb_idx h2.1 h0 h1
  refine va_iald (a := ad c) (i := Int32.ofInt i) (f := fun j => Int32.ofInt (hp c j)) hC.1 hC.2.1 hC.2.2.2.2.2.2.2.2.1 hW.1 c 0 (qb_ws_at hs) rfl h3.1 d ?_
  simp only [h3.2]
  exact kk p l e s m args below meth cd D cI S n0 ad0 ad A H locs ls hC hW hS hL (qb_stc (a := .inl (hp c i)) (hW.2.2.1 c i) h2.2.2) hN
theorem qb_iast {pc' : Nat} {c n : Nat} {i x : Int} (d : decode (qb_by M) pc = .ok (.iastore, 1)) (hpc : pc + 1 = pc') (hs : sh[c]? = some (.inr n)) (h0 : 0 ≤ i) (h1 : i < (n : Int)) (kk : qb_R M cs ss sh pc' L (st) (qb_st hp c i x) Q) : qb_R M cs ss sh pc L (.inl x :: .inl i :: .inr (.inl c) :: st) hp Q := by
  subst hpc
  intro p l e s m args below meth cd D cI S n0 ad0 ad A H locs ls hC hW hS hL hst hN
  have h2 := qb_st2 hst
  have h4 := qb_st1 h2.2.2
  have h3 := qb_idx h2.2.1 h0 h1
  refine va_iast (a := ad c) (i := Int32.ofInt i) (x := Int32.ofInt x) (f := fun j => Int32.ofInt (hp c j)) hC.1 hC.2.1 hC.2.2.2.2.2.2.2.2.1 hW.1 hW.2.1 hS c 0 (qb_ws_at hs) rfl h3.1 d (fun H1 locs1 hP1 hD1 hS1 => ?_)
  rw [qb_ws_sto hs h0 h2.2.1] at hP1 hD1
  exact kk p l e s m args below meth cd D cI S n0 ad0 ad A H1 locs1 ls hC ⟨hP1, hD1, qb_st_in hW.2.2.1 h2.1, hW.2.2.2⟩ hS1 hL h4.2 (qb_Nst hN (List.getElem?_eq_some_iff.mp hs).1 hW.2.2.2)
-- the two tables of rules
theorem qb_getlo {pc' : Nat} {idx : Nat} (d : decode (qb_by M) pc = .ok (.getstatic idx, 3)) (hpc : pc + 3 = pc') (hl : Cond.fieldLink (qb_nm M).cls idx "QuayBrands" "RULE_LOWEST" "[I" ∈ qb_wg) (kk : qb_R M cs ss sh pc' L (.inr (.inl 1000) :: st) hp Q) : qb_R M cs ss sh pc L (st) hp Q := by
  subst hpc
  intro p l e s m args below meth cd D cI S n0 ad0 ad A H locs ls hC hW hS hL hst hN
  refine va_gets (C := RX10) (ref := "QuayBrands") (n := "RULE_LOWEST") (d := "[I") (v := .ref (ad 1000)) hC.1 hC.2.1 (by rw [hN.1]; exact hC.2.2.2.2.2.2.2.2.2.2.2.1.1) hS hC.2.2.2.2.2.2.1 (hC.2.2.2.2.2.2.2.1 _ hl) (fun _ h => h) d ?_
  exact kk p l e s m args below meth cd D cI S n0 ad0 ad A H locs ls hC hW hS hL (qb_stc (a := .inr (.inl 1000)) (Or.inr (Nat.le_refl _)) hst) hN
theorem qb_gethi {pc' : Nat} {idx : Nat} (d : decode (qb_by M) pc = .ok (.getstatic idx, 3)) (hpc : pc + 3 = pc') (hl : Cond.fieldLink (qb_nm M).cls idx "QuayBrands" "RULE_HIGHEST" "[I" ∈ qb_wg) (kk : qb_R M cs ss sh pc' L (.inr (.inl 1001) :: st) hp Q) : qb_R M cs ss sh pc L (st) hp Q := by
  subst hpc
  intro p l e s m args below meth cd D cI S n0 ad0 ad A H locs ls hC hW hS hL hst hN
  refine va_gets (C := RX10) (ref := "QuayBrands") (n := "RULE_HIGHEST") (d := "[I") (v := .ref (ad 1001)) hC.1 hC.2.1 (by rw [hN.2.1]; exact hC.2.2.2.2.2.2.2.2.2.2.2.2.1.1) hS hC.2.2.2.2.2.2.1 (hC.2.2.2.2.2.2.2.1 _ hl) (fun _ h => h) d ?_
  exact kk p l e s m args below meth cd D cI S n0 ad0 ad A H locs ls hC hW hS hL (qb_stc (a := .inr (.inl 1001)) (Or.inr (Nat.le_succ _)) hst) hN
theorem qb_in_tab (f : List Int) (hf : f.all (fun x => decide (-2147483648 ≤ x) && decide (x ≤ 2147483647)) = true) (j : Nat) : qb_in (f.getD j 0) := by
  by_cases h : j < f.length
  · have := List.all_eq_true.mp hf _ (List.getElem_mem h)
    simp only [Bool.and_eq_true, decide_eq_true_eq] at this
    rw [List.getD_eq_getElem?_getD, List.getElem?_eq_getElem h]
    exact this
  · rw [List.getD_eq_getElem?_getD, List.getElem?_eq_none (by omega)]
    exact qb_in0
theorem qb_tlo {pc' : Nat} {i : Int} (d : decode (qb_by M) pc = .ok (.iaload, 1)) (hpc : pc + 1 = pc') (h0 : 0 ≤ i) (h1 : i < 7) (kk : qb_R M cs ss sh pc' L (.inl (qb_low i.toNat) :: st) hp Q) : qb_R M cs ss sh pc L (.inl i :: .inr (.inl 1000) :: st) hp Q := by
  subst hpc
  intro p l e s m args below meth cd D cI S n0 ad0 ad A H locs ls hC hW hS hL hst hN
  have h2 := qb_st2 hst
  have h3 := qb_idx (n := 7) h2.1 h0 h1
  refine va_ti (t := ad 1000) (i := Int32.ofInt i) hC.1 hC.2.1 (by rw [hN.1]; exact hC.2.2.2.2.2.2.2.2.2.2.2.1.2) hS h3.1 (v := .int (Int32.ofInt (qb_low i.toNat))) (by show Value.int (Int32.ofInt (qb_low (Int32.ofInt i).toNatClampNeg)) = _; rw [show (Int32.ofInt i).toNatClampNeg = i.toNat by omega]) d ?_
  exact kk p l e s m args below meth cd D cI S n0 ad0 ad A H locs ls hC hW hS hL (qb_stc (a := .inl (qb_low i.toNat)) (qb_in_tab _ (by decide) _) h2.2.2) hN
theorem qb_thi {pc' : Nat} {i : Int} (d : decode (qb_by M) pc = .ok (.iaload, 1)) (hpc : pc + 1 = pc') (h0 : 0 ≤ i) (h1 : i < 7) (kk : qb_R M cs ss sh pc' L (.inl (qb_high i.toNat) :: st) hp Q) : qb_R M cs ss sh pc L (.inl i :: .inr (.inl 1001) :: st) hp Q := by
  subst hpc
  intro p l e s m args below meth cd D cI S n0 ad0 ad A H locs ls hC hW hS hL hst hN
  have h2 := qb_st2 hst
  have h3 := qb_idx (n := 7) h2.1 h0 h1
  refine va_ti (t := ad 1001) (i := Int32.ofInt i) hC.1 hC.2.1 (by rw [hN.2.1]; exact hC.2.2.2.2.2.2.2.2.2.2.2.2.1.2) hS h3.1 (v := .int (Int32.ofInt (qb_high i.toNat))) (by show Value.int (Int32.ofInt (qb_high (Int32.ofInt i).toNatClampNeg)) = _; rw [show (Int32.ofInt i).toNatClampNeg = i.toNat by omega]) d ?_
  exact kk p l e s m args below meth cd D cI S n0 ad0 ad A H locs ls hC hW hS hL (qb_stc (a := .inl (qb_high i.toNat)) (qb_in_tab _ (by decide) _) h2.2.2) hN
-- the script
theorem qb_sld {pc' : Nat} {i : Int} (d : decode (qb_by M) pc = .ok (.iaload, 1)) (hpc : pc + 1 = pc') (h0 : 0 ≤ i) (h1 : i < hp 1003 0) (kk : qb_R M cs ss sh pc' L (.inl (hp 1002 i) :: st) hp Q) : qb_R M cs ss sh pc L (.inl i :: .inr (.inl 1002) :: st) hp Q := by
  subst hpc
  intro p l e s m args below meth cd D cI S n0 ad0 ad A H locs ls hC hW hS hL hst hN
  have h2 := qb_st2 hst
  obtain ⟨ce, g1, g2, g3, g4, g5, g6⟩ := hC.2.2.2.2.2.2.2.2.2.2.2.2.2
  rw [← hN.2.2.2.2.1] at g4
  have h3 := qb_idx (n := ce.slots.size) h2.1 h0 (by rw [g4]; exact h1)
  refine W.iald (a := ad 1002) (v := .int (Int32.ofInt (hp 1002 i))) hC.1 hC.2.1 (cell := ce) (j := Int32.ofInt i) (by rw [hN.2.2.1, hS.2.1 _ (Array.getElem?_eq_some_iff.mp g1).1 g6]; exact g1) g2 g3 h3.1 (by rw [g5 _ (by omega), h3.2, ← hN.2.2.2.1]) rfl rfl d ?_
  exact kk p l e s m args below meth cd D cI S n0 ad0 ad A H locs ls hC hW hS hL (qb_stc (a := .inl (hp 1002 i)) (hW.2.2.1 _ _) h2.2.2) hN
theorem qb_slen {pc' : Nat} (d : decode (qb_by M) pc = .ok (.arraylength, 1)) (hpc : pc + 1 = pc') (kk : qb_R M cs ss sh pc' L (.inl (hp 1003 0) :: st) hp Q) : qb_R M cs ss sh pc L (.inr (.inl 1002) :: st) hp Q := by
  subst hpc
  intro p l e s m args below meth cd D cI S n0 ad0 ad A H locs ls hC hW hS hL hst hN
  have h2 := qb_st1 hst
  obtain ⟨ce, g1, g2, g3, g4, g5, g6⟩ := hC.2.2.2.2.2.2.2.2.2.2.2.2.2
  rw [← hN.2.2.2.2.1] at g4
  refine W.alen (a := ad 1002) (n := Int32.ofInt (hp 1003 0)) hC.1 hC.2.1 (cell := ce) (ty := .int) (by rw [hN.2.2.1, hS.2.1 _ (Array.getElem?_eq_some_iff.mp g1).1 g6]; exact g1) g2 (by rw [← g4]; rfl) rfl rfl d ?_
  exact kk p l e s m args below meth cd D cI S n0 ad0 ad A H locs ls hC hW hS hL (qb_stc (a := .inl (hp 1003 0)) (hW.2.2.1 _ _) h2.2) hN
end
