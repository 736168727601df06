/-! rows over qb_R, by program (wip/whole/gen/rows.py) -/
section
variable {M : qb_M} {cs ss : Nat} {sh : qb_Sh} {pc : Nat} {L : List (Option qb_V)} {st : List qb_V} {hp : qb_H} {Q : Option qb_V → qb_H → qb_Sh → Prop} {L' : List (Option qb_V)}
theorem qb_in_lit {n : Int} (h : (decide (-2147483648 ≤ n) && decide (n ≤ 2147483647)) = true) : qb_in n := by
  simp only [Bool.and_eq_true, decide_eq_true_eq] at h
  exact h
theorem qb_iconst {pc' : Nat} {n : Int} (d : decode (qb_by M) pc = .ok (.iconst n, 1)) (hpc : pc + 1 = pc') (h : (decide (-2147483648 ≤ n) && decide (n ≤ 2147483647)) = true) (k : qb_R M cs ss sh pc' L (.inl n :: st) hp Q) : qb_R M cs ss sh pc L (st) hp Q := by
  subst hpc
  intro p l e s m args below meth c D cI S n0 ad0 ad A H locs ls hC hW hS hL hst hN
  refine lv_iconst hC.1 hC.2.1 d rfl ?_
  exact k p l e s m args below meth c D cI S n0 ad0 ad A H locs ls hC hW hS hL (qb_stc (a := .inl n) (qb_in_lit h) hst) hN
theorem qb_bipush {pc' : Nat} {n : Int} (d : decode (qb_by M) pc = .ok (.bipush n, 2)) (hpc : pc + 2 = pc') (h : (decide (-2147483648 ≤ n) && decide (n ≤ 2147483647)) = true) (hv : (Int8.ofInt n).toInt32 = Int32.ofInt n) (k : qb_R M cs ss sh pc' L (.inl n :: st) hp Q) : qb_R M cs ss sh pc L (st) hp Q := by
  subst hpc
  intro p l e s m args below meth c D cI S n0 ad0 ad A H locs ls hC hW hS hL hst hN
  refine lv_bipush hC.1 hC.2.1 d hv ?_
  exact k p l e s m args below meth c D cI S n0 ad0 ad A H locs ls hC hW hS hL (qb_stc (a := .inl n) (qb_in_lit h) hst) hN
theorem qb_sipush {pc' : Nat} {n : Int} (d : decode (qb_by M) pc = .ok (.sipush n, 3)) (hpc : pc + 3 = pc') (h : (decide (-2147483648 ≤ n) && decide (n ≤ 2147483647)) = true) (hv : (Int16.ofInt n).toInt32 = Int32.ofInt n) (k : qb_R M cs ss sh pc' L (.inl n :: st) hp Q) : qb_R M cs ss sh pc L (st) hp Q := by
  subst hpc
  intro p l e s m args below meth c D cI S n0 ad0 ad A H locs ls hC hW hS hL hst hN
  refine lv_sipush hC.1 hC.2.1 d hv ?_
  exact k p l e s m args below meth c D cI S n0 ad0 ad A H locs ls hC hW hS hL (qb_stc (a := .inl n) (qb_in_lit h) hst) hN
theorem qb_ldcw {pc' : Nat} {idx : Nat} {n : Int} (d : decode (qb_by M) pc = .ok (.ldc_w idx, 3)) (hpc : pc + 3 = pc') (h : (decide (-2147483648 ≤ n) && decide (n ≤ 2147483647)) = true) (hw : Cond.constant (qb_nm M).cls idx (Int32.ofInt n) ∈ qb_wg) (k : qb_R M cs ss sh pc' L (.inl n :: st) hp Q) : qb_R M cs ss sh pc L (st) hp Q := by
  subst hpc
  intro p l e s m args below meth c D cI S n0 ad0 ad A H locs ls hC hW hS hL hst hN
  refine lv_ldcw hC.1 hC.2.1 hC.2.2.2.2.2.2.1 (hC.2.2.2.2.2.2.2.1 _ hw) d ?_
  exact k p l e s m args below meth c D cI S n0 ad0 ad A H locs ls hC hW hS hL (qb_stc (a := .inl n) (qb_in_lit h) hst) hN
theorem qb_ldc2 {pc' : Nat} {idx : Nat} {n : Int} (d : decode (qb_by M) pc = .ok (.ldc2_w idx, 3)) (hpc : pc + 3 = pc') (h : qb_inL n) (hw : Cond.constantLong (qb_nm M).cls idx (Int64.ofInt n) ∈ qb_wg) (k : qb_R M cs ss sh pc' L (.inr (.inr n) :: st) hp Q) : qb_R M cs ss sh pc L (st) hp Q := by
  subst hpc
  intro p l e s m args below meth c D cI S n0 ad0 ad A H locs ls hC hW hS hL hst hN
  refine lv_ldc2 hC.1 hC.2.1 hC.2.2.2.2.2.2.1 (hC.2.2.2.2.2.2.2.1 _ hw) d ?_
  exact k p l e s m args below meth c D cI S n0 ad0 ad A H locs ls hC hW hS hL (qb_stc (a := .inr (.inr n)) h hst) hN
theorem qb_lconst {pc' : Nat} {n : Fin 2} (d : decode (qb_by M) pc = .ok (.lconst n, 1)) (hpc : pc + 1 = pc') (k : qb_R M cs ss sh pc' L (.inr (.inr ((n : Nat) : Int)) :: st) hp Q) : qb_R M cs ss sh pc L (st) hp Q := by
  subst hpc
  intro p l e s m args below meth c D cI S n0 ad0 ad A H locs ls hC hW hS hL hst hN
  refine lv_lconst (v := Int64.ofInt ((n : Nat) : Int)) hC.1 hC.2.1 d rfl ?_
  exact k p l e s m args below meth c D cI S n0 ad0 ad A H locs ls hC hW hS hL (qb_stc (a := .inr (.inr ((n : Nat) : Int))) (by have := n.isLt; constructor <;> omega) hst) hN
theorem qb_iloadn {pc' : Nat} {k : Fin 4} {i : Nat} {x : Int} (d : decode (qb_by M) pc = .ok (.iload_n k, 1)) (hpc : pc + 1 = pc') (hi : (k : Nat) = i) (hl : L[i]? = some (some (.inl x))) (kk : qb_R M cs ss sh pc' L (.inl x :: st) hp Q) : qb_R M cs ss sh pc L (st) hp Q := by
  subst hpc
  intro p l e s m args below meth c D cI S n0 ad0 ad A H locs ls hC hW hS hL hst hN
  have hv := hL.2.2 i _ hl
  refine lv_iload_n hC.1 hC.2.1 d hi hv.2 ?_
  exact kk p l e s m args below meth c D cI S n0 ad0 ad A H locs ls hC hW hS hL (qb_stc hv.1 hst) hN
theorem qb_iload {pc' : Nat} {i : Nat} {x : Int} (d : decode (qb_by M) pc = .ok (.iload i, 2)) (hpc : pc + 2 = pc') (hl : L[i]? = some (some (.inl x))) (kk : qb_R M cs ss sh pc' L (.inl x :: st) hp Q) : qb_R M cs ss sh pc L (st) hp Q := by
  subst hpc
  intro p l e s m args below meth c D cI S n0 ad0 ad A H locs ls hC hW hS hL hst hN
  have hv := hL.2.2 i _ hl
  refine lv_iload hC.1 hC.2.1 d hv.2 ?_
  exact kk p l e s m args below meth c D cI S n0 ad0 ad A H locs ls hC hW hS hL (qb_stc hv.1 hst) hN
theorem qb_aloadn {pc' : Nat} {k : Fin 4} {i : Nat} {x : Nat} (d : decode (qb_by M) pc = .ok (.aload_n k, 1)) (hpc : pc + 1 = pc') (hi : (k : Nat) = i) (hl : L[i]? = some (some (.inr (.inl x)))) (kk : qb_R M cs ss sh pc' L (.inr (.inl x) :: st) hp Q) : qb_R M cs ss sh pc L (st) hp Q := by
  subst hpc
  intro p l e s m args below meth c D cI S n0 ad0 ad A H locs ls hC hW hS hL hst hN
  have hv := hL.2.2 i _ hl
  refine lv_aload_n hC.1 hC.2.1 d hi hv.2 ?_
  exact kk p l e s m args below meth c D cI S n0 ad0 ad A H locs ls hC hW hS hL (qb_stc hv.1 hst) hN
theorem qb_aload {pc' : Nat} {i : Nat} {x : Nat} (d : decode (qb_by M) pc = .ok (.aload i, 2)) (hpc : pc + 2 = pc') (hl : L[i]? = some (some (.inr (.inl x)))) (kk : qb_R M cs ss sh pc' L (.inr (.inl x) :: st) hp Q) : qb_R M cs ss sh pc L (st) hp Q := by
  subst hpc
  intro p l e s m args below meth c D cI S n0 ad0 ad A H locs ls hC hW hS hL hst hN
  have hv := hL.2.2 i _ hl
  refine lv_aload hC.1 hC.2.1 d hv.2 ?_
  exact kk p l e s m args below meth c D cI S n0 ad0 ad A H locs ls hC hW hS hL (qb_stc hv.1 hst) hN
theorem qb_lloadn {pc' : Nat} {k : Fin 4} {i : Nat} {x : Int} (d : decode (qb_by M) pc = .ok (.lload_n k, 1)) (hpc : pc + 1 = pc') (hi : (k : Nat) = i) (hl : L[i]? = some (some (.inr (.inr x)))) (kk : qb_R M cs ss sh pc' L (.inr (.inr x) :: st) hp Q) : qb_R M cs ss sh pc L (st) hp Q := by
  subst hpc
  intro p l e s m args below meth c D cI S n0 ad0 ad A H locs ls hC hW hS hL hst hN
  have hv := hL.2.2 i _ hl
  refine lv_lload_n hC.1 hC.2.1 d hi hv.2 ?_
  exact kk p l e s m args below meth c D cI S n0 ad0 ad A H locs ls hC hW hS hL (qb_stc hv.1 hst) hN
theorem qb_lload {pc' : Nat} {i : Nat} {x : Int} (d : decode (qb_by M) pc = .ok (.lload i, 2)) (hpc : pc + 2 = pc') (hl : L[i]? = some (some (.inr (.inr x)))) (kk : qb_R M cs ss sh pc' L (.inr (.inr x) :: st) hp Q) : qb_R M cs ss sh pc L (st) hp Q := by
  subst hpc
  intro p l e s m args below meth c D cI S n0 ad0 ad A H locs ls hC hW hS hL hst hN
  have hv := hL.2.2 i _ hl
  refine lv_lload hC.1 hC.2.1 d hv.2 ?_
  exact kk p l e s m args below meth c D cI S n0 ad0 ad A H locs ls hC hW hS hL (qb_stc hv.1 hst) hN
theorem qb_istoren {pc' : Nat} {k : Fin 4} {i : Nat} {x : Int} (d : decode (qb_by M) pc = .ok (.istore_n k, 1)) (hpc : pc + 1 = pc') (hi : (k : Nat) = i) (hn : i < qb_ml M) (hnl : qb_nl L i = true) (hL' : qb_sto L i (.inl x) = L') (kk : qb_R M cs ss sh pc' L' (st) hp Q) : qb_R M cs ss sh pc L (.inl x :: st) hp Q := by
  subst hpc
  subst hL'
  intro p l e s m args below meth c D cI S n0 ad0 ad A H locs ls hC hW hS hL hst hN
  have h2 := qb_st1 hst
  refine lv_istore_n hC.1 hC.2.1 d hi hL.has hn rfl (fun ls' hl' => ?_)
  exact kk p l e s m args below meth c D cI S n0 ad0 ad A H locs ls' hC hW hS (hL.st1 h2.1 rfl (qb_nl_ok hnl) hl') h2.2 hN
theorem qb_istore {pc' : Nat} {i : Nat} {x : Int} (d : decode (qb_by M) pc = .ok (.istore i, 2)) (hpc : pc + 2 = pc') (hn : i < qb_ml M) (hnl : qb_nl L i = true) (hL' : qb_sto L i (.inl x) = L') (kk : qb_R M cs ss sh pc' L' (st) hp Q) : qb_R M cs ss sh pc L (.inl x :: st) hp Q := by
  subst hpc
  subst hL'
  intro p l e s m args below meth c D cI S n0 ad0 ad A H locs ls hC hW hS hL hst hN
  have h2 := qb_st1 hst
  refine lv_istore hC.1 hC.2.1 d hL.has hn rfl (fun ls' hl' => ?_)
  exact kk p l e s m args below meth c D cI S n0 ad0 ad A H locs ls' hC hW hS (hL.st1 h2.1 rfl (qb_nl_ok hnl) hl') h2.2 hN
theorem qb_astoren {pc' : Nat} {k : Fin 4} {i : Nat} {x : Nat} (d : decode (qb_by M) pc = .ok (.astore_n k, 1)) (hpc : pc + 1 = pc') (hi : (k : Nat) = i) (hn : i < qb_ml M) (hnl : qb_nl L i = true) (hL' : qb_sto L i (.inr (.inl x)) = L') (kk : qb_R M cs ss sh pc' L' (st) hp Q) : qb_R M cs ss sh pc L (.inr (.inl x) :: st) hp Q := by
  subst hpc
  subst hL'
  intro p l e s m args below meth c D cI S n0 ad0 ad A H locs ls hC hW hS hL hst hN
  have h2 := qb_st1 hst
  refine lv_astore_n hC.1 hC.2.1 d hi hL.has hn rfl (fun ls' hl' => ?_)
  exact kk p l e s m args below meth c D cI S n0 ad0 ad A H locs ls' hC hW hS (hL.st1 h2.1 rfl (qb_nl_ok hnl) hl') h2.2 hN
theorem qb_astore {pc' : Nat} {i : Nat} {x : Nat} (d : decode (qb_by M) pc = .ok (.astore i, 2)) (hpc : pc + 2 = pc') (hn : i < qb_ml M) (hnl : qb_nl L i = true) (hL' : qb_sto L i (.inr (.inl x)) = L') (kk : qb_R M cs ss sh pc' L' (st) hp Q) : qb_R M cs ss sh pc L (.inr (.inl x) :: st) hp Q := by
  subst hpc
  subst hL'
  intro p l e s m args below meth c D cI S n0 ad0 ad A H locs ls hC hW hS hL hst hN
  have h2 := qb_st1 hst
  refine lv_astore hC.1 hC.2.1 d hL.has hn rfl (fun ls' hl' => ?_)
  exact kk p l e s m args below meth c D cI S n0 ad0 ad A H locs ls' hC hW hS (hL.st1 h2.1 rfl (qb_nl_ok hnl) hl') h2.2 hN
theorem qb_lstoren {pc' : Nat} {k : Fin 4} {i : Nat} {x : Int} (d : decode (qb_by M) pc = .ok (.lstore_n k, 1)) (hpc : pc + 1 = pc') (hi : (k : Nat) = i) (hn : i + 1 < qb_ml M) (hnl : qb_nl L i = true) (hL' : (L.set i (some (.inr (.inr x)))).set (i + 1) none = L') (kk : qb_R M cs ss sh pc' L' (st) hp Q) : qb_R M cs ss sh pc L (.inr (.inr x) :: st) hp Q := by
  subst hpc
  subst hL'
  intro p l e s m args below meth c D cI S n0 ad0 ad A H locs ls hC hW hS hL hst hN
  have h2 := qb_st1 hst
  refine lv_lstore_n hC.1 hC.2.1 d hi hL.has hn rfl (fun ls' hl' => ?_)
  exact kk p l e s m args below meth c D cI S n0 ad0 ad A H locs ls' hC hW hS (hL.st2 h2.1 rfl (qb_nl_ok hnl) hl') h2.2 hN
theorem qb_lstore {pc' : Nat} {i : Nat} {x : Int} (d : decode (qb_by M) pc = .ok (.lstore i, 2)) (hpc : pc + 2 = pc') (hn : i + 1 < qb_ml M) (hnl : qb_nl L i = true) (hL' : (L.set i (some (.inr (.inr x)))).set (i + 1) none = L') (kk : qb_R M cs ss sh pc' L' (st) hp Q) : qb_R M cs ss sh pc L (.inr (.inr x) :: st) hp Q := by
  subst hpc
  subst hL'
  intro p l e s m args below meth c D cI S n0 ad0 ad A H locs ls hC hW hS hL hst hN
  have h2 := qb_st1 hst
  refine lv_lstore hC.1 hC.2.1 d hL.has hn rfl (fun ls' hl' => ?_)
  exact kk p l e s m args below meth c D cI S n0 ad0 ad A H locs ls' hC hW hS (hL.st2 h2.1 rfl (qb_nl_ok hnl) hl') h2.2 hN
theorem qb_iinc {pc' : Nat} {i : Nat} {x n : Int} (d : decode (qb_by M) pc = .ok (.iinc i n, 3)) (hpc : pc + 3 = pc') (hx : L[i]? = some (some (.inl x))) (hr : qb_in (x + n)) (hn : i < qb_ml M) (hnl : qb_nl L i = true) (hL' : qb_sto L i (.inl (x + n)) = L') (kk : qb_R M cs ss sh pc' L' (st) hp Q) : qb_R M cs ss sh pc L (st) hp Q := by
  subst hpc
  subst hL'
  intro p l e s m args below meth c D cI S n0 ad0 ad A H locs ls hC hW hS hL hst hN
  obtain ⟨j, hj⟩ := List.getElem?_of_mem (qb_lv_mem.mpr ⟨.inl x, hx, rfl⟩ : (i, qb_tv ad (.inl x)) ∈ qb_lv ad L)
  refine lv_iinc (v := Int32.ofInt (x + n)) (x := Int32.ofInt x) hC.1 hC.2.1 d hL.has hj (Int32.ofInt_add x n).symm hn rfl (fun ls' hl' => ?_)
  exact kk p l e s m args below meth c D cI S n0 ad0 ad A H locs ls' hC hW hS (hL.st1 (v := .inl (x + n)) hr rfl (qb_nl_ok hnl) hl') hst hN
theorem qb_iadd {pc' : Nat} {x y : Int} (d : decode (qb_by M) pc = .ok (.iadd, 1)) (hpc : pc + 1 = pc') (hr : qb_in (x + y)) (kk : qb_R M cs ss sh pc' L (.inl (x + y) :: st) hp Q) : qb_R M cs ss sh pc L (.inl y :: .inl x :: st) hp Q := by
  subst hpc
  intro p l e s m args below meth c D cI S n0 ad0 ad A H locs ls hC hW hS hL hst hN
  have h2 := qb_st2 hst
  refine lv_iadd (x := Int32.ofInt x) (y := Int32.ofInt y) hC.1 hC.2.1 d ?_
  rw [← Int32.ofInt_add]
  exact kk p l e s m args below meth c D cI S n0 ad0 ad A H locs ls hC hW hS hL (qb_stc (a := .inl (x + y)) hr h2.2.2) hN
theorem qb_isub {pc' : Nat} {x y : Int} (d : decode (qb_by M) pc = .ok (.isub, 1)) (hpc : pc + 1 = pc') (hr : qb_in (x - y)) (kk : qb_R M cs ss sh pc' L (.inl (x - y) :: st) hp Q) : qb_R M cs ss sh pc L (.inl y :: .inl x :: st) hp Q := by
  subst hpc
  intro p l e s m args below meth c D cI S n0 ad0 ad A H locs ls hC hW hS hL hst hN
  have h2 := qb_st2 hst
  refine lv_isub (x := Int32.ofInt x) (y := Int32.ofInt y) hC.1 hC.2.1 d ?_
  rw [← Int32.ofInt_sub]
  exact kk p l e s m args below meth c D cI S n0 ad0 ad A H locs ls hC hW hS hL (qb_stc (a := .inl (x - y)) hr h2.2.2) hN
theorem qb_imul {pc' : Nat} {x y : Int} (d : decode (qb_by M) pc = .ok (.imul, 1)) (hpc : pc + 1 = pc') (hr : qb_in (x * y)) (kk : qb_R M cs ss sh pc' L (.inl (x * y) :: st) hp Q) : qb_R M cs ss sh pc L (.inl y :: .inl x :: st) hp Q := by
  subst hpc
  intro p l e s m args below meth c D cI S n0 ad0 ad A H locs ls hC hW hS hL hst hN
  have h2 := qb_st2 hst
  refine lv_imul (x := Int32.ofInt x) (y := Int32.ofInt y) hC.1 hC.2.1 d ?_
  rw [← Int32.ofInt_mul]
  exact kk p l e s m args below meth c D cI S n0 ad0 ad A H locs ls hC hW hS hL (qb_stc (a := .inl (x * y)) hr h2.2.2) hN
theorem qb_lmul {pc' : Nat} {x y : Int} (d : decode (qb_by M) pc = .ok (.lmul, 1)) (hpc : pc + 1 = pc') (hr : qb_inL (x * y)) (kk : qb_R M cs ss sh pc' L (.inr (.inr (x * y)) :: st) hp Q) : qb_R M cs ss sh pc L (.inr (.inr y) :: .inr (.inr x) :: st) hp Q := by
  subst hpc
  intro p l e s m args below meth c D cI S n0 ad0 ad A H locs ls hC hW hS hL hst hN
  have h2 := qb_st2 hst
  refine lv_lmul (x := Int64.ofInt x) (y := Int64.ofInt y) hC.1 hC.2.1 d ?_
  rw [← Int64.ofInt_mul]
  exact kk p l e s m args below meth c D cI S n0 ad0 ad A H locs ls hC hW hS hL (qb_stc (a := .inr (.inr (x * y))) hr h2.2.2) hN
theorem qb_mx32 : Int32.maxValue.toInt = 2147483647 := by decide
theorem qb_mx64 : Int64.maxValue.toInt = 9223372036854775807 := by decide
theorem qb_div_ {x y : Int} (hx : qb_in x) (hy : qb_in y) (h0 : 0 ≤ x) (h1 : 0 < y) : Int32.ofInt x / Int32.ofInt y = Int32.ofInt (x / y) ∧ ¬ Int32.ofInt y = 0 := by
  refine ⟨?_, fun h => ?_⟩
  · rw [← Int.tdiv_eq_ediv_of_nonneg h0, Int32.ofInt_tdiv (by have := hx.1; simpa using this) (by rw [qb_mx32]; exact hx.2) (by have := hy.1; simpa using this) (by rw [qb_mx32]; exact hy.2)]
  · rw [qb_0I, qb_eqI hy qb_in0] at h
    omega
theorem qb_in_div {x y : Int} (hx : qb_in x) (h0 : 0 ≤ x) (h1 : 0 < y) : qb_in (x / y) := by
  have h2 : 0 ≤ x / y := Int.ediv_nonneg h0 (Int.le_of_lt h1)
  have h3 : x / y ≤ x := Int.ediv_le_self y h0
  have := hx.2
  constructor <;> omega
theorem qb_in_mod {x y : Int} (hy : qb_in y) (h1 : 0 < y) : qb_in (x % y) := by
  have h2 := Int.emod_nonneg x (Int.ne_of_gt h1)
  have h3 := Int.emod_lt_of_pos x h1
  have := hy.2
  constructor <;> omega
theorem qb_idiv {pc' : Nat} {x y : Int} (d : decode (qb_by M) pc = .ok (.idiv, 1)) (hpc : pc + 1 = pc') (h0 : 0 ≤ x) (h1 : 0 < y) (kk : qb_R M cs ss sh pc' L (.inl (x / y) :: st) hp Q) : qb_R M cs ss sh pc L (.inl y :: .inl x :: st) hp Q := by
  subst hpc
  intro p l e s m args below meth c D cI S n0 ad0 ad A H locs ls hC hW hS hL hst hN
  have h2 := qb_st2 hst
  have h3 := qb_div_ h2.2.1 h2.1 h0 h1
  refine lv_idiv (x := Int32.ofInt x) (y := Int32.ofInt y) hC.1 hC.2.1 d h3.2 ?_
  rw [h3.1]
  exact kk p l e s m args below meth c D cI S n0 ad0 ad A H locs ls hC hW hS hL (qb_stc (a := .inl (x / y)) (qb_in_div h2.2.1 h0 h1) h2.2.2) hN
theorem qb_irem {pc' : Nat} {x y : Int} (d : decode (qb_by M) pc = .ok (.irem, 1)) (hpc : pc + 1 = pc') (h0 : 0 ≤ x) (h1 : 0 < y) (kk : qb_R M cs ss sh pc' L (.inl (x % y) :: st) hp Q) : qb_R M cs ss sh pc L (.inl y :: .inl x :: st) hp Q := by
  subst hpc
  intro p l e s m args below meth c D cI S n0 ad0 ad A H locs ls hC hW hS hL hst hN
  have h2 := qb_st2 hst
  have h3 := qb_div_ h2.2.1 h2.1 h0 h1
  refine lv_irem (x := Int32.ofInt x) (y := Int32.ofInt y) hC.1 hC.2.1 d h3.2 ?_
  rw [h3.1, ← Int32.ofInt_mul, ← Int32.ofInt_sub, Int.mul_comm, ← Int.emod_def]
  exact kk p l e s m args below meth c D cI S n0 ad0 ad A H locs ls hC hW hS hL (qb_stc (a := .inl (x % y)) (qb_in_mod h2.1 h1) h2.2.2) hN
theorem qb_divL_ {x y : Int} (hx : qb_inL x) (hy : qb_inL y) (h0 : 0 ≤ x) (h1 : 0 < y) : Int64.ofInt x / Int64.ofInt y = Int64.ofInt (x / y) ∧ ¬ Int64.ofInt y = 0 := by
  refine ⟨?_, fun h => ?_⟩
  · rw [← Int.tdiv_eq_ediv_of_nonneg h0, Int64.ofInt_tdiv (by have := hx.1; simpa using this) (by rw [qb_mx64]; exact hx.2) (by have := hy.1; simpa using this) (by rw [qb_mx64]; exact hy.2)]
  · have h := congrArg Int64.toInt h
    rw [qb_toL hy] at h
    have e : (0 : Int64).toInt = 0 := rfl
    omega
theorem qb_ldiv {pc' : Nat} {x y : Int} (d : decode (qb_by M) pc = .ok (.ldiv, 1)) (hpc : pc + 1 = pc') (h0 : 0 ≤ x) (h1 : 0 < y) (kk : qb_R M cs ss sh pc' L (.inr (.inr (x / y)) :: st) hp Q) : qb_R M cs ss sh pc L (.inr (.inr y) :: .inr (.inr x) :: st) hp Q := by
  subst hpc
  intro p l e s m args below meth c D cI S n0 ad0 ad A H locs ls hC hW hS hL hst hN
  have h2 := qb_st2 hst
  have h3 := qb_divL_ h2.2.1 h2.1 h0 h1
  refine lv_ldiv (x := Int64.ofInt x) (y := Int64.ofInt y) hC.1 hC.2.1 d h3.2 ?_
  rw [h3.1]
  exact kk p l e s m args below meth c D cI S n0 ad0 ad A H locs ls hC hW hS hL (qb_stc (a := .inr (.inr (x / y))) (by
    have e2 : 0 ≤ x / y := Int.ediv_nonneg h0 (Int.le_of_lt h1)
    have e3 : x / y ≤ x := Int.ediv_le_self y h0
    have e4 := h2.2.1.2
    constructor <;> omega) h2.2.2) hN
def qb_cmp (x y : Int) : Int := if y < x then 1 else if x = y then 0 else -1
theorem qb_lcmp {pc' : Nat} {x y : Int} (d : decode (qb_by M) pc = .ok (.lcmp, 1)) (hpc : pc + 1 = pc') (kk : qb_R M cs ss sh pc' L (.inl (qb_cmp x y) :: st) hp Q) : qb_R M cs ss sh pc L (.inr (.inr y) :: .inr (.inr x) :: st) hp Q := by
  subst hpc
  intro p l e s m args below meth c D cI S n0 ad0 ad A H locs ls hC hW hS hL hst hN
  have h2 := qb_st2 hst
  refine W.lcmp (x := Int64.ofInt x) (y := Int64.ofInt y) hC.1 hC.2.1 d ?_
  have hx := qb_toL h2.2.1
  have hy := qb_toL h2.1
  have he : lg_cmp (Int64.ofInt x) (Int64.ofInt y) = Int32.ofInt (qb_cmp x y) := by
    unfold lg_cmp qb_cmp
    simp only [gt_iff_lt, Int64.lt_iff_toInt_lt, ← Int64.toInt_inj, hx, hy]
    split <;> (try split) <;> rfl
  rw [he]
  exact kk p l e s m args below meth c D cI S n0 ad0 ad A H locs ls hC hW hS hL (qb_stc (a := .inl (qb_cmp x y)) (by unfold qb_cmp; split <;> (try split) <;> constructor <;> decide) h2.2.2) hN
theorem qb_i2l {pc' : Nat} {x : Int} (d : decode (qb_by M) pc = .ok (.i2l, 1)) (hpc : pc + 1 = pc') (kk : qb_R M cs ss sh pc' L (.inr (.inr x) :: st) hp Q) : qb_R M cs ss sh pc L (.inl x :: st) hp Q := by
  subst hpc
  intro p l e s m args below meth c D cI S n0 ad0 ad A H locs ls hC hW hS hL hst hN
  have h2 := qb_st1 hst
  refine lv_i2l (x := Int32.ofInt x) (v := Int64.ofInt x) hC.1 hC.2.1 d (Int32.toInt64_ofInt (by have := h2.1.1; simpa using this) (by rw [qb_mx32]; exact h2.1.2)) ?_
  exact kk p l e s m args below meth c D cI S n0 ad0 ad A H locs ls hC hW hS hL (qb_stc (a := .inr (.inr x)) (by have e1 := h2.1.1; have e2 := h2.1.2; constructor <;> omega) h2.2) hN
theorem qb_in32 (x : Int32) : qb_in x.toInt := ⟨by have := x.le_toInt; simpa using this, by have := x.toInt_lt; omega⟩
def qb_and (x y : Int) : Int := (Int32.ofInt x &&& Int32.ofInt y).toInt
theorem qb_iand {pc' : Nat} {x y : Int} (d : decode (qb_by M) pc = .ok (.iand, 1)) (hpc : pc + 1 = pc') (kk : qb_R M cs ss sh pc' L (.inl (qb_and x y) :: st) hp Q) : qb_R M cs ss sh pc L (.inl y :: .inl x :: st) hp Q := by
  subst hpc
  intro p l e s m args below meth c D cI S n0 ad0 ad A H locs ls hC hW hS hL hst hN
  have h2 := qb_st2 hst
  refine lv_iand (x := Int32.ofInt x) (y := Int32.ofInt y) hC.1 hC.2.1 d ?_
  have he : Int32.ofInt x &&& Int32.ofInt y = Int32.ofInt (qb_and x y) := (Int32.ofInt_toInt _).symm
  rw [he]
  exact kk p l e s m args below meth c D cI S n0 ad0 ad A H locs ls hC hW hS hL (qb_stc (a := .inl (qb_and x y)) (qb_in32 _) h2.2.2) hN
def qb_or (x y : Int) : Int := (Int32.ofInt x ||| Int32.ofInt y).toInt
theorem qb_ior {pc' : Nat} {x y : Int} (d : decode (qb_by M) pc = .ok (.ior, 1)) (hpc : pc + 1 = pc') (kk : qb_R M cs ss sh pc' L (.inl (qb_or x y) :: st) hp Q) : qb_R M cs ss sh pc L (.inl y :: .inl x :: st) hp Q := by
  subst hpc
  intro p l e s m args below meth c D cI S n0 ad0 ad A H locs ls hC hW hS hL hst hN
  have h2 := qb_st2 hst
  refine lv_ior (x := Int32.ofInt x) (y := Int32.ofInt y) hC.1 hC.2.1 d ?_
  have he : Int32.ofInt x ||| Int32.ofInt y = Int32.ofInt (qb_or x y) := (Int32.ofInt_toInt _).symm
  rw [he]
  exact kk p l e s m args below meth c D cI S n0 ad0 ad A H locs ls hC hW hS hL (qb_stc (a := .inl (qb_or x y)) (qb_in32 _) h2.2.2) hN
def qb_xor (x y : Int) : Int := (Int32.ofInt x ^^^ Int32.ofInt y).toInt
theorem qb_ixor {pc' : Nat} {x y : Int} (d : decode (qb_by M) pc = .ok (.ixor, 1)) (hpc : pc + 1 = pc') (kk : qb_R M cs ss sh pc' L (.inl (qb_xor x y) :: st) hp Q) : qb_R M cs ss sh pc L (.inl y :: .inl x :: st) hp Q := by
  subst hpc
  intro p l e s m args below meth c D cI S n0 ad0 ad A H locs ls hC hW hS hL hst hN
  have h2 := qb_st2 hst
  refine lv_ixor (x := Int32.ofInt x) (y := Int32.ofInt y) hC.1 hC.2.1 d ?_
  have he : Int32.ofInt x ^^^ Int32.ofInt y = Int32.ofInt (qb_xor x y) := (Int32.ofInt_toInt _).symm
  rw [he]
  exact kk p l e s m args below meth c D cI S n0 ad0 ad A H locs ls hC hW hS hL (qb_stc (a := .inl (qb_xor x y)) (qb_in32 _) h2.2.2) hN
def qb_shl (x y : Int) : Int := (Int32.ofInt x <<< (Int32.ofInt y &&& 31)).toInt
theorem qb_ishl {pc' : Nat} {x y : Int} (d : decode (qb_by M) pc = .ok (.ishl, 1)) (hpc : pc + 1 = pc') (kk : qb_R M cs ss sh pc' L (.inl (qb_shl x y) :: st) hp Q) : qb_R M cs ss sh pc L (.inl y :: .inl x :: st) hp Q := by
  subst hpc
  intro p l e s m args below meth c D cI S n0 ad0 ad A H locs ls hC hW hS hL hst hN
  have h2 := qb_st2 hst
  refine lv_ishl (x := Int32.ofInt x) (y := Int32.ofInt y) hC.1 hC.2.1 d ?_
  have he : Int32.ofInt x <<< (Int32.ofInt y &&& 31) = Int32.ofInt (qb_shl x y) := (Int32.ofInt_toInt _).symm
  rw [he]
  exact kk p l e s m args below meth c D cI S n0 ad0 ad A H locs ls hC hW hS hL (qb_stc (a := .inl (qb_shl x y)) (qb_in32 _) h2.2.2) hN
def qb_shr (x y : Int) : Int := (Int32.ofInt x >>> (Int32.ofInt y &&& 31)).toInt
theorem qb_ishr {pc' : Nat} {x y : Int} (d : decode (qb_by M) pc = .ok (.ishr, 1)) (hpc : pc + 1 = pc') (kk : qb_R M cs ss sh pc' L (.inl (qb_shr x y) :: st) hp Q) : qb_R M cs ss sh pc L (.inl y :: .inl x :: st) hp Q := by
  subst hpc
  intro p l e s m args below meth c D cI S n0 ad0 ad A H locs ls hC hW hS hL hst hN
  have h2 := qb_st2 hst
  refine lv_ishr (x := Int32.ofInt x) (y := Int32.ofInt y) hC.1 hC.2.1 d ?_
  have he : Int32.ofInt x >>> (Int32.ofInt y &&& 31) = Int32.ofInt (qb_shr x y) := (Int32.ofInt_toInt _).symm
  rw [he]
  exact kk p l e s m args below meth c D cI S n0 ad0 ad A H locs ls hC hW hS hL (qb_stc (a := .inl (qb_shr x y)) (qb_in32 _) h2.2.2) hN
def qb_ushr (x y : Int) : Int := (((Int32.ofInt x).toUInt32 >>> ((Int32.ofInt y).toUInt32 &&& Int32.toUInt32 31)).toInt32).toInt
theorem qb_iushr {pc' : Nat} {x y : Int} (d : decode (qb_by M) pc = .ok (.iushr, 1)) (hpc : pc + 1 = pc') (kk : qb_R M cs ss sh pc' L (.inl (qb_ushr x y) :: st) hp Q) : qb_R M cs ss sh pc L (.inl y :: .inl x :: st) hp Q := by
  subst hpc
  intro p l e s m args below meth c D cI S n0 ad0 ad A H locs ls hC hW hS hL hst hN
  have h2 := qb_st2 hst
  refine lv_iushr (x := Int32.ofInt x) (y := Int32.ofInt y) hC.1 hC.2.1 d rfl ?_
  have he : ((Int32.ofInt x).toUInt32 >>> ((Int32.ofInt y).toUInt32 &&& Int32.toUInt32 31)).toInt32 = Int32.ofInt (qb_ushr x y) := (Int32.ofInt_toInt _).symm
  rw [he]
  exact kk p l e s m args below meth c D cI S n0 ad0 ad A H locs ls hC hW hS hL (qb_stc (a := .inl (qb_ushr x y)) (qb_in32 _) h2.2.2) hN
def qb_cat : qb_V → Nat
  | .inl _ => 1
  | .inr (.inl _) => 1
  | .inr (.inr _) => 2
theorem qb_cat_ (ad : Nat → Nat) (v : qb_V) : (qb_tv ad v).category = qb_cat v := by rcases v with x | x | x <;> rfl
theorem qb_cats (ad : Nat → Nat) (st : List qb_V) : ((st.map (qb_tv ad)).map fun v => v.category).sum = (st.map qb_cat).sum := by
  rw [List.map_map]
  congr 1
  exact List.map_congr_left (fun v _ => qb_cat_ ad v)
theorem qb_dup {pc' : Nat} {v : qb_V} (d : decode (qb_by M) pc = .ok (.dup, 1)) (hpc : pc + 1 = pc') (hv : qb_cat v = 1) (kk : qb_R M cs ss sh pc' L (v :: v :: st) hp Q) : qb_R M cs ss sh pc L (v :: st) hp Q := by
  subst hpc
  intro p l e s m args below meth c D cI S n0 ad0 ad A H locs ls hC hW hS hL hst hN
  have h2 := qb_st1 hst
  refine lv_dup hC.1 hC.2.1 d (by rw [qb_cat_]; exact hv) ?_
  exact kk p l e s m args below meth c D cI S n0 ad0 ad A H locs ls hC hW hS hL (qb_stc h2.1 hst) hN
theorem qb_pop {pc' : Nat} {v : qb_V} (d : decode (qb_by M) pc = .ok (.pop, 1)) (hpc : pc + 1 = pc') (hv : qb_cat v = 1) (kk : qb_R M cs ss sh pc' L (st) hp Q) : qb_R M cs ss sh pc L (v :: st) hp Q := by
  subst hpc
  intro p l e s m args below meth c D cI S n0 ad0 ad A H locs ls hC hW hS hL hst hN
  have h2 := qb_st1 hst
  refine lv_pop hC.1 hC.2.1 d (by rw [qb_cat_]; exact hv) ?_
  exact kk p l e s m args below meth c D cI S n0 ad0 ad A H locs ls hC hW hS hL h2.2 hN
theorem qb_dup2 {pc' : Nat} {v w : qb_V} (d : decode (qb_by M) pc = .ok (.dup2, 1)) (hpc : pc + 1 = pc') (hv : qb_cat v = 1) (hw : qb_cat w = 1) (kk : qb_R M cs ss sh pc' L (v :: w :: v :: w :: st) hp Q) : qb_R M cs ss sh pc L (v :: w :: st) hp Q := by
  subst hpc
  intro p l e s m args below meth c D cI S n0 ad0 ad A H locs ls hC hW hS hL hst hN
  have h2 := qb_st2 hst
  refine lv_dup2_11 hC.1 hC.2.1 d (by rw [qb_cat_]; exact hv) (by rw [qb_cat_]; exact hw) ?_
  exact kk p l e s m args below meth c D cI S n0 ad0 ad A H locs ls hC hW hS hL (qb_stc h2.1 (qb_stc h2.2.1 hst)) hN
theorem qb_feq {pc' : Nat} {x : Int} {off : Int} {tgt : Nat} (d : decode (qb_by M) pc = .ok (.ifCond .eq off, 3)) (hpc : pc + 3 = pc') (ht : (pc : Int) + off = (tgt : Int)) (kt : x = 0 → qb_R M cs ss sh tgt L (st) hp Q) (kf : ¬ x = 0 → qb_R M cs ss sh pc' L (st) hp Q) : qb_R M cs ss sh pc L (.inl x :: st) hp Q := by
  subst hpc
  intro p l e s m args below meth c D cI S n0 ad0 ad A H locs ls hC hW hS hL hst hN
  have h2 := qb_st1 hst
  refine lv_if_eq (x := Int32.ofInt x) hC.1 hC.2.1 d ht (fun h => ?_) (fun h => ?_)
  · exact kt ((qb_eqI h2.1 qb_in0).mp h) p l e s m args below meth c D cI S n0 ad0 ad A H locs ls hC hW hS hL h2.2 hN
  · exact kf (fun z => h ((qb_eqI h2.1 qb_in0).mpr z)) p l e s m args below meth c D cI S n0 ad0 ad A H locs ls hC hW hS hL h2.2 hN
theorem qb_fne {pc' : Nat} {x : Int} {off : Int} {tgt : Nat} (d : decode (qb_by M) pc = .ok (.ifCond .ne off, 3)) (hpc : pc + 3 = pc') (ht : (pc : Int) + off = (tgt : Int)) (kt : ¬ x = 0 → qb_R M cs ss sh tgt L (st) hp Q) (kf : x = 0 → qb_R M cs ss sh pc' L (st) hp Q) : qb_R M cs ss sh pc L (.inl x :: st) hp Q := by
  subst hpc
  intro p l e s m args below meth c D cI S n0 ad0 ad A H locs ls hC hW hS hL hst hN
  have h2 := qb_st1 hst
  refine lv_if_ne (x := Int32.ofInt x) hC.1 hC.2.1 d ht (fun h => ?_) (fun h => ?_)
  · exact kt (fun z => h ((qb_eqI h2.1 qb_in0).mpr z)) p l e s m args below meth c D cI S n0 ad0 ad A H locs ls hC hW hS hL h2.2 hN
  · exact kf ((qb_eqI h2.1 qb_in0).mp h) p l e s m args below meth c D cI S n0 ad0 ad A H locs ls hC hW hS hL h2.2 hN
theorem qb_flt {pc' : Nat} {x : Int} {off : Int} {tgt : Nat} (d : decode (qb_by M) pc = .ok (.ifCond .lt off, 3)) (hpc : pc + 3 = pc') (ht : (pc : Int) + off = (tgt : Int)) (kt : x < 0 → qb_R M cs ss sh tgt L (st) hp Q) (kf : ¬ x < 0 → qb_R M cs ss sh pc' L (st) hp Q) : qb_R M cs ss sh pc L (.inl x :: st) hp Q := by
  subst hpc
  intro p l e s m args below meth c D cI S n0 ad0 ad A H locs ls hC hW hS hL hst hN
  have h2 := qb_st1 hst
  refine lv_if_lt (x := Int32.ofInt x) hC.1 hC.2.1 d ht (fun h => ?_) (fun h => ?_)
  · exact kt ((qb_ltI h2.1 qb_in0).mp h) p l e s m args below meth c D cI S n0 ad0 ad A H locs ls hC hW hS hL h2.2 hN
  · exact kf (fun z => h ((qb_ltI h2.1 qb_in0).mpr z)) p l e s m args below meth c D cI S n0 ad0 ad A H locs ls hC hW hS hL h2.2 hN
theorem qb_fge {pc' : Nat} {x : Int} {off : Int} {tgt : Nat} (d : decode (qb_by M) pc = .ok (.ifCond .ge off, 3)) (hpc : pc + 3 = pc') (ht : (pc : Int) + off = (tgt : Int)) (kt : 0 ≤ x → qb_R M cs ss sh tgt L (st) hp Q) (kf : ¬ 0 ≤ x → qb_R M cs ss sh pc' L (st) hp Q) : qb_R M cs ss sh pc L (.inl x :: st) hp Q := by
  subst hpc
  intro p l e s m args below meth c D cI S n0 ad0 ad A H locs ls hC hW hS hL hst hN
  have h2 := qb_st1 hst
  refine lv_if_ge (x := Int32.ofInt x) hC.1 hC.2.1 d ht (fun h => ?_) (fun h => ?_)
  · exact kt ((qb_leI qb_in0 h2.1).mp h) p l e s m args below meth c D cI S n0 ad0 ad A H locs ls hC hW hS hL h2.2 hN
  · exact kf (fun z => h ((qb_leI qb_in0 h2.1).mpr z)) p l e s m args below meth c D cI S n0 ad0 ad A H locs ls hC hW hS hL h2.2 hN
theorem qb_fgt {pc' : Nat} {x : Int} {off : Int} {tgt : Nat} (d : decode (qb_by M) pc = .ok (.ifCond .gt off, 3)) (hpc : pc + 3 = pc') (ht : (pc : Int) + off = (tgt : Int)) (kt : 0 < x → qb_R M cs ss sh tgt L (st) hp Q) (kf : ¬ 0 < x → qb_R M cs ss sh pc' L (st) hp Q) : qb_R M cs ss sh pc L (.inl x :: st) hp Q := by
  subst hpc
  intro p l e s m args below meth c D cI S n0 ad0 ad A H locs ls hC hW hS hL hst hN
  have h2 := qb_st1 hst
  refine lv_if_gt (x := Int32.ofInt x) hC.1 hC.2.1 d ht (fun h => ?_) (fun h => ?_)
  · exact kt ((qb_ltI qb_in0 h2.1).mp h) p l e s m args below meth c D cI S n0 ad0 ad A H locs ls hC hW hS hL h2.2 hN
  · exact kf (fun z => h ((qb_ltI qb_in0 h2.1).mpr z)) p l e s m args below meth c D cI S n0 ad0 ad A H locs ls hC hW hS hL h2.2 hN
theorem qb_fle {pc' : Nat} {x : Int} {off : Int} {tgt : Nat} (d : decode (qb_by M) pc = .ok (.ifCond .le off, 3)) (hpc : pc + 3 = pc') (ht : (pc : Int) + off = (tgt : Int)) (kt : x ≤ 0 → qb_R M cs ss sh tgt L (st) hp Q) (kf : ¬ x ≤ 0 → qb_R M cs ss sh pc' L (st) hp Q) : qb_R M cs ss sh pc L (.inl x :: st) hp Q := by
  subst hpc
  intro p l e s m args below meth c D cI S n0 ad0 ad A H locs ls hC hW hS hL hst hN
  have h2 := qb_st1 hst
  refine lv_if_le (x := Int32.ofInt x) hC.1 hC.2.1 d ht (fun h => ?_) (fun h => ?_)
  · exact kt ((qb_leI h2.1 qb_in0).mp h) p l e s m args below meth c D cI S n0 ad0 ad A H locs ls hC hW hS hL h2.2 hN
  · exact kf (fun z => h ((qb_leI h2.1 qb_in0).mpr z)) p l e s m args below meth c D cI S n0 ad0 ad A H locs ls hC hW hS hL h2.2 hN
theorem qb_ceq {pc' : Nat} {x y : Int} {off : Int} {tgt : Nat} (d : decode (qb_by M) pc = .ok (.if_icmp .eq off, 3)) (hpc : pc + 3 = pc') (ht : (pc : Int) + off = (tgt : Int)) (kt : x = y → qb_R M cs ss sh tgt L (st) hp Q) (kf : ¬ x = y → qb_R M cs ss sh pc' L (st) hp Q) : qb_R M cs ss sh pc L (.inl y :: .inl x :: st) hp Q := by
  subst hpc
  intro p l e s m args below meth c D cI S n0 ad0 ad A H locs ls hC hW hS hL hst hN
  have h2 := qb_st2 hst
  refine lv_icmp_eq (x := Int32.ofInt x) (y := Int32.ofInt y) hC.1 hC.2.1 d ht (fun h => ?_) (fun h => ?_)
  · exact kt ((qb_eqI h2.2.1 h2.1).mp h) p l e s m args below meth c D cI S n0 ad0 ad A H locs ls hC hW hS hL h2.2.2 hN
  · exact kf (fun z => h ((qb_eqI h2.2.1 h2.1).mpr z)) p l e s m args below meth c D cI S n0 ad0 ad A H locs ls hC hW hS hL h2.2.2 hN
theorem qb_cne {pc' : Nat} {x y : Int} {off : Int} {tgt : Nat} (d : decode (qb_by M) pc = .ok (.if_icmp .ne off, 3)) (hpc : pc + 3 = pc') (ht : (pc : Int) + off = (tgt : Int)) (kt : ¬ x = y → qb_R M cs ss sh tgt L (st) hp Q) (kf : x = y → qb_R M cs ss sh pc' L (st) hp Q) : qb_R M cs ss sh pc L (.inl y :: .inl x :: st) hp Q := by
  subst hpc
  intro p l e s m args below meth c D cI S n0 ad0 ad A H locs ls hC hW hS hL hst hN
  have h2 := qb_st2 hst
  refine lv_icmp_ne (x := Int32.ofInt x) (y := Int32.ofInt y) hC.1 hC.2.1 d ht (fun h => ?_) (fun h => ?_)
  · exact kt (fun z => h ((qb_eqI h2.2.1 h2.1).mpr z)) p l e s m args below meth c D cI S n0 ad0 ad A H locs ls hC hW hS hL h2.2.2 hN
  · exact kf ((qb_eqI h2.2.1 h2.1).mp h) p l e s m args below meth c D cI S n0 ad0 ad A H locs ls hC hW hS hL h2.2.2 hN
theorem qb_clt {pc' : Nat} {x y : Int} {off : Int} {tgt : Nat} (d : decode (qb_by M) pc = .ok (.if_icmp .lt off, 3)) (hpc : pc + 3 = pc') (ht : (pc : Int) + off = (tgt : Int)) (kt : x < y → qb_R M cs ss sh tgt L (st) hp Q) (kf : ¬ x < y → qb_R M cs ss sh pc' L (st) hp Q) : qb_R M cs ss sh pc L (.inl y :: .inl x :: st) hp Q := by
  subst hpc
  intro p l e s m args below meth c D cI S n0 ad0 ad A H locs ls hC hW hS hL hst hN
  have h2 := qb_st2 hst
  refine lv_icmp_lt (x := Int32.ofInt x) (y := Int32.ofInt y) hC.1 hC.2.1 d ht (fun h => ?_) (fun h => ?_)
  · exact kt ((qb_ltI h2.2.1 h2.1).mp h) p l e s m args below meth c D cI S n0 ad0 ad A H locs ls hC hW hS hL h2.2.2 hN
  · exact kf (fun z => h ((qb_ltI h2.2.1 h2.1).mpr z)) p l e s m args below meth c D cI S n0 ad0 ad A H locs ls hC hW hS hL h2.2.2 hN
theorem qb_cge {pc' : Nat} {x y : Int} {off : Int} {tgt : Nat} (d : decode (qb_by M) pc = .ok (.if_icmp .ge off, 3)) (hpc : pc + 3 = pc') (ht : (pc : Int) + off = (tgt : Int)) (kt : y ≤ x → qb_R M cs ss sh tgt L (st) hp Q) (kf : ¬ y ≤ x → qb_R M cs ss sh pc' L (st) hp Q) : qb_R M cs ss sh pc L (.inl y :: .inl x :: st) hp Q := by
  subst hpc
  intro p l e s m args below meth c D cI S n0 ad0 ad A H locs ls hC hW hS hL hst hN
  have h2 := qb_st2 hst
  refine lv_icmp_ge (x := Int32.ofInt x) (y := Int32.ofInt y) hC.1 hC.2.1 d ht (fun h => ?_) (fun h => ?_)
  · exact kt ((qb_leI h2.1 h2.2.1).mp h) p l e s m args below meth c D cI S n0 ad0 ad A H locs ls hC hW hS hL h2.2.2 hN
  · exact kf (fun z => h ((qb_leI h2.1 h2.2.1).mpr z)) p l e s m args below meth c D cI S n0 ad0 ad A H locs ls hC hW hS hL h2.2.2 hN
theorem qb_cgt {pc' : Nat} {x y : Int} {off : Int} {tgt : Nat} (d : decode (qb_by M) pc = .ok (.if_icmp .gt off, 3)) (hpc : pc + 3 = pc') (ht : (pc : Int) + off = (tgt : Int)) (kt : y < x → qb_R M cs ss sh tgt L (st) hp Q) (kf : ¬ y < x → qb_R M cs ss sh pc' L (st) hp Q) : qb_R M cs ss sh pc L (.inl y :: .inl x :: st) hp Q := by
  subst hpc
  intro p l e s m args below meth c D cI S n0 ad0 ad A H locs ls hC hW hS hL hst hN
  have h2 := qb_st2 hst
  refine lv_icmp_gt (x := Int32.ofInt x) (y := Int32.ofInt y) hC.1 hC.2.1 d ht (fun h => ?_) (fun h => ?_)
  · exact kt ((qb_ltI h2.1 h2.2.1).mp h) p l e s m args below meth c D cI S n0 ad0 ad A H locs ls hC hW hS hL h2.2.2 hN
  · exact kf (fun z => h ((qb_ltI h2.1 h2.2.1).mpr z)) p l e s m args below meth c D cI S n0 ad0 ad A H locs ls hC hW hS hL h2.2.2 hN
theorem qb_cle {pc' : Nat} {x y : Int} {off : Int} {tgt : Nat} (d : decode (qb_by M) pc = .ok (.if_icmp .le off, 3)) (hpc : pc + 3 = pc') (ht : (pc : Int) + off = (tgt : Int)) (kt : x ≤ y → qb_R M cs ss sh tgt L (st) hp Q) (kf : ¬ x ≤ y → qb_R M cs ss sh pc' L (st) hp Q) : qb_R M cs ss sh pc L (.inl y :: .inl x :: st) hp Q := by
  subst hpc
  intro p l e s m args below meth c D cI S n0 ad0 ad A H locs ls hC hW hS hL hst hN
  have h2 := qb_st2 hst
  refine lv_icmp_le (x := Int32.ofInt x) (y := Int32.ofInt y) hC.1 hC.2.1 d ht (fun h => ?_) (fun h => ?_)
  · exact kt ((qb_leI h2.2.1 h2.1).mp h) p l e s m args below meth c D cI S n0 ad0 ad A H locs ls hC hW hS hL h2.2.2 hN
  · exact kf (fun z => h ((qb_leI h2.2.1 h2.1).mpr z)) p l e s m args below meth c D cI S n0 ad0 ad A H locs ls hC hW hS hL h2.2.2 hN
theorem qb_goto {off : Int} {tgt : Nat} (d : decode (qb_by M) pc = .ok (.goto off, 3)) (ht : (pc : Int) + off = (tgt : Int)) (kk : qb_R M cs ss sh tgt L (st) hp Q) : qb_R M cs ss sh pc L (st) hp Q := by
  intro p l e s m args below meth c D cI S n0 ad0 ad A H locs ls hC hW hS hL hst hN
  refine lv_goto hC.1 hC.2.1 d ht ?_
  exact kk p l e s m args below meth c D cI S n0 ad0 ad A H locs ls hC hW hS hL hst hN
theorem qb_tabOut {dflt lo hi : Int} {offs : Array Int} {len : Nat} {x : Int} {tgt : Nat} (d : decode (qb_by M) pc = .ok (.tableswitch dflt lo hi offs, len)) (h : x < lo ∨ hi < x) (ht : (pc : Int) + dflt = (tgt : Int)) (kk : qb_R M cs ss sh tgt L (st) hp Q) : qb_R M cs ss sh pc L (.inl x :: st) hp Q := by
  intro p l e s m args below meth c D cI S n0 ad0 ad A H locs ls hC hW hS hL hst hN
  have h2 := qb_st1 hst
  refine lv_tableOut (x := Int32.ofInt x) hC.1 hC.2.1 d (by rw [qb_toI h2.1]; exact h) ht ?_
  exact kk p l e s m args below meth c D cI S n0 ad0 ad A H locs ls hC hW hS hL h2.2 hN
theorem qb_tabIn {dflt lo hi : Int} {offs : Array Int} {len : Nat} {x off : Int} {tgt : Nat} (d : decode (qb_by M) pc = .ok (.tableswitch dflt lo hi offs, len)) (h1 : ¬ x < lo) (h2 : ¬ hi < x) (ho : offs[(x - lo).toNat]? = some off) (ht : (pc : Int) + off = (tgt : Int)) (kk : qb_R M cs ss sh tgt L (st) hp Q) : qb_R M cs ss sh pc L (.inl x :: st) hp Q := by
  intro p l e s m args below meth c D cI S n0 ad0 ad A H locs ls hC hW hS hL hst hN
  have h3 := qb_st1 hst
  refine lv_tableIn (x := Int32.ofInt x) hC.1 hC.2.1 d (by rw [qb_toI h3.1]; exact h1) (by rw [qb_toI h3.1]; exact h2) (by rw [qb_toI h3.1]; exact ho) ht ?_
  exact kk p l e s m args below meth c D cI S n0 ad0 ad A H locs ls hC hW hS hL h3.2 hN
theorem qb_lookup {hp' : qb_H} {dflt : Int} {ps : Array (Int × Int)} {len : Nat} {x off : Int} {tgt : Nat} (d : decode (qb_by M) pc = .ok (.lookupswitch dflt ps, len)) (hp : (ps.toList.zip (ps.toList.drop 1)).all (fun (a, next) => a.1 < next.1) = true) (ho : Op.lookupswitch.offset ps.toList dflt x = off) (ht : (pc : Int) + off = (tgt : Int)) (kk : qb_R M cs ss sh tgt L st hp' Q) : qb_R M cs ss sh pc L (.inl x :: st) hp' Q := by
  intro p l e s m args below meth c D cI S n0 ad0 ad A H locs ls hC hW hS hL hst hN
  have h3 := qb_st1 hst
  refine lv_lookup (x := Int32.ofInt x) hC.1 hC.2.1 d hp (by rw [qb_toI h3.1]; exact ho) ht ?_
  exact kk p l e s m args below meth c D cI S n0 ad0 ad A H locs ls hC hW hS hL h3.2 hN
theorem qb_istorey {pc' : Nat} {i : Nat} {x : Int} {Lf : Int → List (Option qb_V)} (d : decode (qb_by M) pc = .ok (.istore i, 2)) (hpc : pc + 2 = pc') (hn : i < qb_ml M) (hnl : qb_nl L i = true) (hL' : ∀ y, qb_sto L i (.inl y) = Lf y) (kk : ∀ y, y = x → qb_R M cs ss sh pc' (Lf y) st hp Q) : qb_R M cs ss sh pc L (.inl x :: st) hp Q := qb_istore d hpc hn hnl (hL' x) (kk x rfl)
theorem qb_istoreny {pc' : Nat} {k : Fin 4} {i : Nat} {x : Int} {Lf : Int → List (Option qb_V)} (d : decode (qb_by M) pc = .ok (.istore_n k, 1)) (hpc : pc + 1 = pc') (hi : (k : Nat) = i) (hn : i < qb_ml M) (hnl : qb_nl L i = true) (hL' : ∀ y, qb_sto L i (.inl y) = Lf y) (kk : ∀ y, y = x → qb_R M cs ss sh pc' (Lf y) st hp Q) : qb_R M cs ss sh pc L (.inl x :: st) hp Q := qb_istoren d hpc hi hn hnl (hL' x) (kk x rfl)
theorem qb_ina {x n k : Int} (g : 0 ≤ x ∧ x < n) (h : (-2147483648 ≤ k ∧ n + k ≤ 2147483647)) : qb_in (x + k) := by unfold qb_in; omega
theorem qb_ins {x n k : Int} (g : 0 ≤ x ∧ x < n) (h : (k ≤ 2147483647 ∧ n - k ≤ 2147483647)) : qb_in (x - k) := by unfold qb_in; omega
end
