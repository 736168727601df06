/-! ends with an answer, calls with an answer; switches -/
def qb_I (sh : qb_Sh) (K : Int → qb_H → Prop) : Option qb_V → qb_H → qb_Sh → Prop := fun r hp sh' => sh' = sh ∧ ∃ v, r = some (.inl v) ∧ K v hp
def qb_J (sh : qb_Sh) (K : Int → qb_H → Prop) : Option qb_V → qb_H → qb_Sh → Prop := fun r hp sh' => sh' = sh ∧ ∃ v, r = some (.inr (.inr v)) ∧ K v hp
def qb_U (sh : qb_Sh) (K : qb_H → Prop) : Option qb_V → qb_H → qb_Sh → Prop := fun r hp sh' => sh' = sh ∧ r = none ∧ K hp
section
variable {M N : qb_M} {sh : qb_Sh} {pc pc' : Nat} {L : List (Option qb_V)} {st rest : List qb_V} {hp : qb_H} {Q : Option qb_V → qb_H → qb_Sh → Prop}
theorem qb_reti {K : Int → qb_H → Prop} {x : Int} (d : decode (qb_by M) pc = .ok (.ireturn, 1)) (hr : qb_rt M = some .int) (h : K x hp) : qb_R M 0 0 sh pc L [.inl x] hp (qb_I sh K) := qb_iret d hr ⟨Nat.zero_le _, Nat.zero_le _⟩ ⟨rfl, x, rfl, h⟩
theorem qb_retz {K : Int → qb_H → Prop} {x : Int} (d : decode (qb_by M) pc = .ok (.ireturn, 1)) (hr : qb_rt M = some .boolean) (hx : x = 0 ∨ x = 1) (h : K x hp) : qb_R M 0 0 sh pc L [.inl x] hp (qb_I sh K) := qb_zret d hr hx ⟨Nat.zero_le _, Nat.zero_le _⟩ ⟨rfl, x, rfl, h⟩
theorem qb_retl {K : Int → qb_H → Prop} {x : Int} (d : decode (qb_by M) pc = .ok (.lreturn, 1)) (hr : qb_rt M = some .long) (h : K x hp) : qb_R M 0 0 sh pc L [.inr (.inr x)] hp (qb_J sh K) := qb_lret d hr ⟨Nat.zero_le _, Nat.zero_le _⟩ ⟨rfl, x, rfl, h⟩
theorem qb_retv {K : qb_H → Prop} (d : decode (qb_by M) pc = .ok (.return_, 1)) (hr : qb_rt M = none) (h : K hp) : qb_R M 0 0 sh pc L [] hp (qb_U sh K) := qb_vret d hr ⟨Nat.zero_le _, Nat.zero_le _⟩ ⟨rfl, rfl, h⟩
theorem qb_mono_i {cs ss : Nat} {K K' : Int → qb_H → Prop} (h : qb_R M cs ss sh pc L st hp (qb_I sh K)) (hk : ∀ v hp', K v hp' → K' v hp') : qb_R M cs ss sh pc L st hp (qb_I sh K') := qb_mono h (fun r hp' sh' ⟨h1, v, h2, h3⟩ => ⟨h1, v, h2, hk v hp' h3⟩)
theorem qb_mono_j {cs ss : Nat} {K K' : Int → qb_H → Prop} (h : qb_R M cs ss sh pc L st hp (qb_J sh K)) (hk : ∀ v hp', K v hp' → K' v hp') : qb_R M cs ss sh pc L st hp (qb_J sh K') := qb_mono h (fun r hp' sh' ⟨h1, v, h2, h3⟩ => ⟨h1, v, h2, hk v hp' h3⟩)
theorem qb_mono_u {cs ss : Nat} {K K' : qb_H → Prop} (h : qb_R M cs ss sh pc L st hp (qb_U sh K)) (hk : ∀ hp', K hp' → K' hp') : qb_R M cs ss sh pc L st hp (qb_U sh K') := qb_mono h (fun r hp' sh' ⟨h1, h2, h3⟩ => ⟨h1, h2, hk hp' h3⟩)
theorem qb_0 {cs ss : Nat} (h0 : qb_mc N = 0 ∧ qb_ms N = 0) (k : qb_R M cs ss sh pc L st hp Q) : qb_R M (cs + qb_mc N) (ss + qb_ms N) sh pc L st hp Q := by
  rw [h0.1, h0.2]; exact k
theorem qb_callVi {idx n b ci : Nat} {as : List qb_V} {sl : List (Option (Option Nat))} {Tb : u_T} {Nf : Nat} {K : Int → qb_H → Prop} (d : decode (qb_by M) pc = .ok (.invokevirtual idx, 3)) (hpc : pc + 3 = pc') (cw : qb_CV M N idx n) (hn : as.length = n) (hst' : st = as.reverse ++ (.inr (.inl b) :: rest)) (hs : sh[b]? = some (.inl (ci, sl))) (hci : vwCl[ci]? = some ((qb_nm N).cls, Tb, Nf)) (hnl : (as.all fun v => qb_cat v == 1) = true) (hml : as.length + 1 ≤ qb_ml N) (hr : (rest.map qb_cat).sum ≤ 8) (h0 : qb_mc N = 0 ∧ qb_ms N = 0)
    (h : qb_R N 0 0 sh 0 ((.inr (.inl b) :: as).map some ++ List.replicate (qb_ml N - (as.length + 1)) none) [] hp (qb_I sh K)) (k : ∀ v hp', K v hp' → qb_R M 0 0 sh pc' L (.inl v :: rest) hp' Q) : qb_R M 0 0 sh pc L st hp Q := by
  subst hpc
  exact qb_callV d cw hn hst' hs hci hnl hml ⟨hr, by rw [h0.1]; exact Nat.zero_le _, by rw [h0.2]; exact Nat.zero_le _⟩ (qb_mono h (fun r hp' sh' ⟨h1, v, h2, h3⟩ => by subst h1; subst h2; exact qb_0 h0 (k v hp' h3)))
theorem qb_callVu {idx n b ci : Nat} {as : List qb_V} {sl : List (Option (Option Nat))} {Tb : u_T} {Nf : Nat} {K : qb_H → Prop} (d : decode (qb_by M) pc = .ok (.invokevirtual idx, 3)) (hpc : pc + 3 = pc') (cw : qb_CV M N idx n) (hn : as.length = n) (hst' : st = as.reverse ++ (.inr (.inl b) :: rest)) (hs : sh[b]? = some (.inl (ci, sl))) (hci : vwCl[ci]? = some ((qb_nm N).cls, Tb, Nf)) (hnl : (as.all fun v => qb_cat v == 1) = true) (hml : as.length + 1 ≤ qb_ml N) (hr : (rest.map qb_cat).sum ≤ 8) (h0 : qb_mc N = 0 ∧ qb_ms N = 0)
    (h : qb_R N 0 0 sh 0 ((.inr (.inl b) :: as).map some ++ List.replicate (qb_ml N - (as.length + 1)) none) [] hp (qb_U sh K)) (k : ∀ hp', K hp' → qb_R M 0 0 sh pc' L rest hp' Q) : qb_R M 0 0 sh pc L st hp Q := by
  subst hpc
  exact qb_callV d cw hn hst' hs hci hnl hml ⟨hr, by rw [h0.1]; exact Nat.zero_le _, by rw [h0.2]; exact Nat.zero_le _⟩ (qb_mono h (fun r hp' sh' ⟨h1, h2, h3⟩ => by subst h1; subst h2; exact qb_0 h0 (k hp' h3)))
theorem qb_callSi {idx n : Nat} {as : List qb_V} {K : Int → qb_H → Prop} (d : decode (qb_by M) pc = .ok (.invokestatic idx, 3)) (hpc : pc + 3 = pc') (cw : qb_CS M N idx n) (hn : as.length = n) (hst' : st = as.reverse ++ rest) (hnl : (as.all fun v => qb_cat v == 1) = true) (hml : as.length ≤ qb_ml N) (hr : (rest.map qb_cat).sum ≤ 8) (h0 : qb_mc N = 0 ∧ qb_ms N = 0)
    (h : qb_R N 0 0 sh 0 (as.map some ++ List.replicate (qb_ml N - as.length) none) [] hp (qb_I sh K)) (k : ∀ v hp', K v hp' → qb_R M 0 0 sh pc' L (.inl v :: rest) hp' Q) : qb_R M 0 0 sh pc L st hp Q := by
  subst hpc
  exact qb_callS d cw hn hst' hnl hml ⟨hr, by rw [h0.1]; exact Nat.zero_le _, by rw [h0.2]; exact Nat.zero_le _⟩ (qb_mono h (fun r hp' sh' ⟨h1, v, h2, h3⟩ => by subst h1; subst h2; exact qb_0 h0 (k v hp' h3)))
theorem qb_callSl {idx n : Nat} {as : List qb_V} {K : Int → qb_H → Prop} (d : decode (qb_by M) pc = .ok (.invokestatic idx, 3)) (hpc : pc + 3 = pc') (cw : qb_CS M N idx n) (hn : as.length = n) (hst' : st = as.reverse ++ rest) (hnl : (as.all fun v => qb_cat v == 1) = true) (hml : as.length ≤ qb_ml N) (hr : (rest.map qb_cat).sum ≤ 8) (h0 : qb_mc N = 0 ∧ qb_ms N = 0)
    (h : qb_R N 0 0 sh 0 (as.map some ++ List.replicate (qb_ml N - as.length) none) [] hp (qb_J sh K)) (k : ∀ v hp', K v hp' → qb_R M 0 0 sh pc' L (.inr (.inr v) :: rest) hp' Q) : qb_R M 0 0 sh pc L st hp Q := by
  subst hpc
  exact qb_callS d cw hn hst' hnl hml ⟨hr, by rw [h0.1]; exact Nat.zero_le _, by rw [h0.2]; exact Nat.zero_le _⟩ (qb_mono h (fun r hp' sh' ⟨h1, v, h2, h3⟩ => by subst h1; subst h2; exact qb_0 h0 (k v hp' h3)))
theorem qb_callNi {n : Nat} {as : List qb_V} {K : Int → qb_H → Prop} (d : decode (qb_by M) pc = .ok (.invokestatic 30, 3)) (hpc : pc + 3 = pc') (cw : qb_CB M N n) (how : (qb_nm M).cls = "QuayBrands$Acts") (hnm : qb_nm N = ⟨"QuayBrands", "within", "(III)Z"⟩) (hstat : Cond.static (qb_nm N) ∈ qb_wg) (hn : as.length = n) (hst' : st = as.reverse ++ rest) (hnl : (as.all fun v => qb_cat v == 1) = true) (hml : as.length ≤ qb_ml N) (hr : (rest.map qb_cat).sum ≤ 8) (h0 : qb_mc N = 0 ∧ qb_ms N = 0)
    (h : qb_R N 0 0 sh 0 (as.map some ++ List.replicate (qb_ml N - as.length) none) [] hp (qb_I sh K)) (k : ∀ v hp', K v hp' → qb_R M 0 0 sh pc' L (.inl v :: rest) hp' Q) : qb_R M 0 0 sh pc L st hp Q := by
  subst hpc
  exact qb_callSN d cw how hnm hstat hn hst' hnl hml ⟨hr, by rw [h0.1]; exact Nat.zero_le _, by rw [h0.2]; exact Nat.zero_le _⟩ (qb_mono h (fun r hp' sh' ⟨h1, v, h2, h3⟩ => by subst h1; subst h2; exact qb_0 h0 (k v hp' h3)))
theorem qb_tabj {lo hi dflt : Int} {offs : Array Int} {len : Nat} {x off : Int} {tgt : Nat} (d : decode (qb_by M) pc = .ok (.tableswitch dflt lo hi offs, len)) (j : Nat) (hx : x = lo + (j : Int)) (hj : lo + (j : Int) ≤ hi) (ho : offs[j]? = some off) (ht : (pc : Int) + off = (tgt : Int)) (kk : qb_R M 0 0 sh tgt L rest hp Q) : qb_R M 0 0 sh pc L (.inl x :: rest) hp Q :=
  qb_tabIn d (by omega) (by omega) (by rw [show (x - lo).toNat = j by omega]; exact ho) ht kk
theorem qb_sw1 {x lo m : Int} (h : x < lo ∨ m ≤ x) (hn : ¬ x = m) : x < lo ∨ m + 1 ≤ x := by omega
theorem qb_lk1 {a o d x : Int} {r : List (Int × Int)} (h : x = a) : Op.lookupswitch.offset ((a, o) :: r) d x = o := by rw [Op.lookupswitch.offset_cons, if_pos h.symm]
theorem qb_lk2 {a o d x z : Int} {r : List (Int × Int)} (h : ¬ x = a) (k : Op.lookupswitch.offset r d x = z) : Op.lookupswitch.offset ((a, o) :: r) d x = z := by rw [Op.lookupswitch.offset_cons, if_neg (fun q => h q.symm)]; exact k
end
