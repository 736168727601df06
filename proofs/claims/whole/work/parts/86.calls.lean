/-! the invariant between two calls; every call keeps it, and both answer alike -/
def Inv (hp : qb_H) : Prop := ∃ n : Nat, qb_iB hp n ∧ wr hp n ≤ 5 ∧ qb_iD hp ∧ qb_iA hp ∧ qb_iS hp ∧ qb_iJ hp ∧ qb_iE hp ∧ qb_iF hp ∧ qb_iP hp ∧ qb_iH hp
theorem wr_go {hp hq : qb_H} (h : hq 13 = hp 13) (n : Nat) : wr hq n = wr hp n := by unfold wr; rw [h]
theorem Inv_kS {hp hq : qb_H} (h : Inv hp) (hk : kS hp hq) : Inv hq := by
  obtain ⟨n, hB, hw, hD, hA, hS, hJ, hE, hF, hP, hH⟩ := h
  exact ⟨n, iB_kS hB hk, by rw [wr_go (kS_c hk 13 (by decide) (by decide) (by decide) (by decide) (by decide))]; exact hw, iD_kS hD hk, iA_kS hA hk, iS_kS hS hk, iJ_kS hJ hk, iE_kS hE hk, iF_kS hF hk, iP_kS hP hk, iH_kS hH hk⟩
theorem iB_kp {cs : List Nat} {fs : List Int} {hp hq : qb_H} {n : Nat} (h : qb_iB hp n) (hk : kp cs fs hp hq) (hc : ∀ c ∈ ([10, 11, 12, 13, 14, 15, 16, 17, 21, 22, 65, 66, 67, 68] : List Nat), c ∉ cs) (hf : ∀ j ∈ ([9] : List Int), j ∉ fs) : qb_iB hq n := by
  have e10 : hq 10 = hp 10 := hk.1 10 (hc 10 (by decide)) (by decide)
  have e11 : hq 11 = hp 11 := hk.1 11 (hc 11 (by decide)) (by decide)
  have e12 : hq 12 = hp 12 := hk.1 12 (hc 12 (by decide)) (by decide)
  have e13 : hq 13 = hp 13 := hk.1 13 (hc 13 (by decide)) (by decide)
  have e14 : hq 14 = hp 14 := hk.1 14 (hc 14 (by decide)) (by decide)
  have e15 : hq 15 = hp 15 := hk.1 15 (hc 15 (by decide)) (by decide)
  have e16 : hq 16 = hp 16 := hk.1 16 (hc 16 (by decide)) (by decide)
  have e17 : hq 17 = hp 17 := hk.1 17 (hc 17 (by decide)) (by decide)
  have e21 : hq 21 = hp 21 := hk.1 21 (hc 21 (by decide)) (by decide)
  have e22 : hq 22 = hp 22 := hk.1 22 (hc 22 (by decide)) (by decide)
  have e65 : hq 65 = hp 65 := hk.1 65 (hc 65 (by decide)) (by decide)
  have e66 : hq 66 = hp 66 := hk.1 66 (hc 66 (by decide)) (by decide)
  have e67 : hq 67 = hp 67 := hk.1 67 (hc 67 (by decide)) (by decide)
  have e68 : hq 68 = hp 68 := hk.1 68 (hc 68 (by decide)) (by decide)
  have f9 : hq 60 9 = hp 60 9 := hk.2 9 (hf 9 (by decide))
  unfold qb_iB qb_iL at h ⊢
  rw [e10, e11, e12, e13, e14, e15, e16, e17, e21, e22, e65, e66, e67, e68, f9]
  exact h
theorem iD_kp {cs : List Nat} {fs : List Int} {hp hq : qb_H} (h : qb_iD hp) (hk : kp cs fs hp hq) (hc : ∀ c ∈ ([1, 2, 61] : List Nat), c ∉ cs) (hf : ∀ j ∈ ([0] : List Int), j ∉ fs) : qb_iD hq := by
  have e1 : hq 1 = hp 1 := hk.1 1 (hc 1 (by decide)) (by decide)
  have e2 : hq 2 = hp 2 := hk.1 2 (hc 2 (by decide)) (by decide)
  have e61 : hq 61 = hp 61 := hk.1 61 (hc 61 (by decide)) (by decide)
  have f0 : hq 60 0 = hp 60 0 := hk.2 0 (hf 0 (by decide))
  unfold qb_iD at h ⊢
  rw [e1, e2, e61, f0]
  exact h
theorem iA_kp {cs : List Nat} {fs : List Int} {hp hq : qb_H} (h : qb_iA hp) (hk : kp cs fs hp hq) (hc : ∀ c ∈ ([3, 4, 5, 6, 7, 8, 9, 62, 63, 64] : List Nat), c ∉ cs) (hf : ∀ j ∈ ([2] : List Int), j ∉ fs) : qb_iA hq := by
  have e3 : hq 3 = hp 3 := hk.1 3 (hc 3 (by decide)) (by decide)
  have e4 : hq 4 = hp 4 := hk.1 4 (hc 4 (by decide)) (by decide)
  have e5 : hq 5 = hp 5 := hk.1 5 (hc 5 (by decide)) (by decide)
  have e6 : hq 6 = hp 6 := hk.1 6 (hc 6 (by decide)) (by decide)
  have e7 : hq 7 = hp 7 := hk.1 7 (hc 7 (by decide)) (by decide)
  have e8 : hq 8 = hp 8 := hk.1 8 (hc 8 (by decide)) (by decide)
  have e9 : hq 9 = hp 9 := hk.1 9 (hc 9 (by decide)) (by decide)
  have e62 : hq 62 = hp 62 := hk.1 62 (hc 62 (by decide)) (by decide)
  have e63 : hq 63 = hp 63 := hk.1 63 (hc 63 (by decide)) (by decide)
  have e64 : hq 64 = hp 64 := hk.1 64 (hc 64 (by decide)) (by decide)
  have f2 : hq 60 2 = hp 60 2 := hk.2 2 (hf 2 (by decide))
  unfold qb_iA ac_ok ac_lt ac_kd ac_cp ac_nm ac_t at h ⊢
  rw [e3, e4, e5, e6, e7, e8, e9, e62, e63, e64, f2]
  exact h
theorem iS_kp {cs : List Nat} {fs : List Int} {hp hq : qb_H} (h : qb_iS hp) (hk : kp cs fs hp hq) (hc : ∀ c ∈ ([26, 27, 28, 29, 30, 69] : List Nat), c ∉ cs) (hf : ∀ j ∈ ([11] : List Int), j ∉ fs) : qb_iS hq := by
  have e26 : hq 26 = hp 26 := hk.1 26 (hc 26 (by decide)) (by decide)
  have e27 : hq 27 = hp 27 := hk.1 27 (hc 27 (by decide)) (by decide)
  have e28 : hq 28 = hp 28 := hk.1 28 (hc 28 (by decide)) (by decide)
  have e29 : hq 29 = hp 29 := hk.1 29 (hc 29 (by decide)) (by decide)
  have e30 : hq 30 = hp 30 := hk.1 30 (hc 30 (by decide)) (by decide)
  have e69 : hq 69 = hp 69 := hk.1 69 (hc 69 (by decide)) (by decide)
  have f11 : hq 60 11 = hp 60 11 := hk.2 11 (hf 11 (by decide))
  unfold qb_iS at h ⊢
  rw [e26, e27, e28, e29, e30, e69, f11]
  exact h
theorem iJ_kp {cs : List Nat} {fs : List Int} {hp hq : qb_H} (h : qb_iJ hp) (hk : kp cs fs hp hq) (hc : ∀ c ∈ ([32, 33, 70] : List Nat), c ∉ cs) (hf : ∀ j ∈ ([13] : List Int), j ∉ fs) : qb_iJ hq := by
  have e32 : hq 32 = hp 32 := hk.1 32 (hc 32 (by decide)) (by decide)
  have e33 : hq 33 = hp 33 := hk.1 33 (hc 33 (by decide)) (by decide)
  have e70 : hq 70 = hp 70 := hk.1 70 (hc 70 (by decide)) (by decide)
  have f13 : hq 60 13 = hp 60 13 := hk.2 13 (hf 13 (by decide))
  unfold qb_iJ jh jr at h ⊢
  rw [e32, e33, e70, f13]
  exact h
theorem iE_kp {cs : List Nat} {fs : List Int} {hp hq : qb_H} (h : qb_iE hp) (hk : kp cs fs hp hq) (hc : ∀ c ∈ ([37, 38, 39, 71, 72, 73] : List Nat), c ∉ cs) (hf : ∀ j ∈ ([] : List Int), j ∉ fs) : qb_iE hq := by
  have e37 : hq 37 = hp 37 := hk.1 37 (hc 37 (by decide)) (by decide)
  have e38 : hq 38 = hp 38 := hk.1 38 (hc 38 (by decide)) (by decide)
  have e39 : hq 39 = hp 39 := hk.1 39 (hc 39 (by decide)) (by decide)
  have e71 : hq 71 = hp 71 := hk.1 71 (hc 71 (by decide)) (by decide)
  have e72 : hq 72 = hp 72 := hk.1 72 (hc 72 (by decide)) (by decide)
  have e73 : hq 73 = hp 73 := hk.1 73 (hc 73 (by decide)) (by decide)
  unfold qb_iE at h ⊢
  rw [e37, e38, e39, e71, e72, e73]
  exact h
theorem iF_kp {cs : List Nat} {fs : List Int} {hp hq : qb_H} (h : qb_iF hp) (hk : kp cs fs hp hq) (hc : ∀ c ∈ ([40, 41, 42, 43, 44, 74, 75, 76] : List Nat), c ∉ cs) (hf : ∀ j ∈ ([18] : List Int), j ∉ fs) : qb_iF hq := by
  have e40 : hq 40 = hp 40 := hk.1 40 (hc 40 (by decide)) (by decide)
  have e41 : hq 41 = hp 41 := hk.1 41 (hc 41 (by decide)) (by decide)
  have e42 : hq 42 = hp 42 := hk.1 42 (hc 42 (by decide)) (by decide)
  have e43 : hq 43 = hp 43 := hk.1 43 (hc 43 (by decide)) (by decide)
  have e44 : hq 44 = hp 44 := hk.1 44 (hc 44 (by decide)) (by decide)
  have e74 : hq 74 = hp 74 := hk.1 74 (hc 74 (by decide)) (by decide)
  have e75 : hq 75 = hp 75 := hk.1 75 (hc 75 (by decide)) (by decide)
  have e76 : hq 76 = hp 76 := hk.1 76 (hc 76 (by decide)) (by decide)
  have f18 : hq 60 18 = hp 60 18 := hk.2 18 (hf 18 (by decide))
  unfold qb_iF at h ⊢
  rw [e40, e41, e42, e43, e44, e74, e75, e76, f18]
  exact h
theorem iP_kp {cs : List Nat} {fs : List Int} {hp hq : qb_H} (h : qb_iP hp) (hk : kp cs fs hp hq) (hc : ∀ c ∈ ([45, 46, 47, 48, 49, 79, 80, 81, 82] : List Nat), c ∉ cs) (hf : ∀ j ∈ ([24] : List Int), j ∉ fs) : qb_iP hq := by
  have e45 : hq 45 = hp 45 := hk.1 45 (hc 45 (by decide)) (by decide)
  have e46 : hq 46 = hp 46 := hk.1 46 (hc 46 (by decide)) (by decide)
  have e47 : hq 47 = hp 47 := hk.1 47 (hc 47 (by decide)) (by decide)
  have e48 : hq 48 = hp 48 := hk.1 48 (hc 48 (by decide)) (by decide)
  have e49 : hq 49 = hp 49 := hk.1 49 (hc 49 (by decide)) (by decide)
  have e79 : hq 79 = hp 79 := hk.1 79 (hc 79 (by decide)) (by decide)
  have e80 : hq 80 = hp 80 := hk.1 80 (hc 80 (by decide)) (by decide)
  have e81 : hq 81 = hp 81 := hk.1 81 (hc 81 (by decide)) (by decide)
  have e82 : hq 82 = hp 82 := hk.1 82 (hc 82 (by decide)) (by decide)
  have f24 : hq 60 24 = hp 60 24 := hk.2 24 (hf 24 (by decide))
  unfold qb_iP at h ⊢
  rw [e45, e46, e47, e48, e49, e79, e80, e81, e82, f24]
  exact h
theorem iH_kp {cs : List Nat} {fs : List Int} {hp hq : qb_H} (h : qb_iH hp) (hk : kp cs fs hp hq) (hc : ∀ c ∈ ([55, 56, 77, 78, 59] : List Nat), c ∉ cs) (hf : ∀ j ∈ ([] : List Int), j ∉ fs) : qb_iH hq := by
  have e55 : hq 55 = hp 55 := hk.1 55 (hc 55 (by decide)) (by decide)
  have e56 : hq 56 = hp 56 := hk.1 56 (hc 56 (by decide)) (by decide)
  have e77 : hq 77 = hp 77 := hk.1 77 (hc 77 (by decide)) (by decide)
  have e78 : hq 78 = hp 78 := hk.1 78 (hc 78 (by decide)) (by decide)
  have e59 : hq 59 = hp 59 := hk.1 59 (hc 59 (by decide)) (by decide)
  unfold qb_iH at h ⊢
  rw [e55, e56, e77, e78, e59]
  exact h
theorem Inv_D {hp hq : qb_H} (h : Inv hp) (hiD : qb_iD hq) (hk : kp [1, 2, 61] [0] hp hq) : Inv hq := by
  obtain ⟨n, hB, hw, hD, hA, hS, hJ, hE, hF, hP, hH⟩ := h
  have e13 : hq 13 = hp 13 := hk.1 13 (by decide) (by decide)
  exact ⟨n, iB_kp hB hk (by decide) (by decide), by rw [wr_go e13]; exact hw, hiD, iA_kp hA hk (by decide) (by decide), iS_kp hS hk (by decide) (by decide), iJ_kp hJ hk (by decide) (by decide), iE_kp hE hk (by decide) (by decide), iF_kp hF hk (by decide) (by decide), iP_kp hP hk (by decide) (by decide), iH_kp hH hk (by decide) (by decide)⟩
theorem Inv_DA {hp hq : qb_H} (h : Inv hp) (hiD : qb_iD hq) (hiA : qb_iA hq) (hk : kp [1, 3, 4, 5, 6, 7, 8, 9, 62, 63, 64] [0, 2] hp hq) : Inv hq := by
  obtain ⟨n, hB, hw, hD, hA, hS, hJ, hE, hF, hP, hH⟩ := h
  have e13 : hq 13 = hp 13 := hk.1 13 (by decide) (by decide)
  exact ⟨n, iB_kp hB hk (by decide) (by decide), by rw [wr_go e13]; exact hw, hiD, hiA, iS_kp hS hk (by decide) (by decide), iJ_kp hJ hk (by decide) (by decide), iE_kp hE hk (by decide) (by decide), iF_kp hF hk (by decide) (by decide), iP_kp hP hk (by decide) (by decide), iH_kp hH hk (by decide) (by decide)⟩
theorem Inv_S {hp hq : qb_H} (h : Inv hp) (hiS : qb_iS hq) (hk : kp [26, 27, 28, 29, 30, 69] [11] hp hq) : Inv hq := by
  obtain ⟨n, hB, hw, hD, hA, hS, hJ, hE, hF, hP, hH⟩ := h
  have e13 : hq 13 = hp 13 := hk.1 13 (by decide) (by decide)
  exact ⟨n, iB_kp hB hk (by decide) (by decide), by rw [wr_go e13]; exact hw, iD_kp hD hk (by decide) (by decide), iA_kp hA hk (by decide) (by decide), hiS, iJ_kp hJ hk (by decide) (by decide), iE_kp hE hk (by decide) (by decide), iF_kp hF hk (by decide) (by decide), iP_kp hP hk (by decide) (by decide), iH_kp hH hk (by decide) (by decide)⟩
theorem Inv_J {hp hq : qb_H} (h : Inv hp) (hiJ : qb_iJ hq) (hk : kp [32, 33, 70] [13] hp hq) : Inv hq := by
  obtain ⟨n, hB, hw, hD, hA, hS, hJ, hE, hF, hP, hH⟩ := h
  have e13 : hq 13 = hp 13 := hk.1 13 (by decide) (by decide)
  exact ⟨n, iB_kp hB hk (by decide) (by decide), by rw [wr_go e13]; exact hw, iD_kp hD hk (by decide) (by decide), iA_kp hA hk (by decide) (by decide), iS_kp hS hk (by decide) (by decide), hiJ, iE_kp hE hk (by decide) (by decide), iF_kp hF hk (by decide) (by decide), iP_kp hP hk (by decide) (by decide), iH_kp hH hk (by decide) (by decide)⟩
theorem Inv_E {hp hq : qb_H} (h : Inv hp) (hiE : qb_iE hq) (hk : kp [37, 38, 39, 71, 72, 73] [] hp hq) : Inv hq := by
  obtain ⟨n, hB, hw, hD, hA, hS, hJ, hE, hF, hP, hH⟩ := h
  have e13 : hq 13 = hp 13 := hk.1 13 (by decide) (by decide)
  exact ⟨n, iB_kp hB hk (by decide) (by decide), by rw [wr_go e13]; exact hw, iD_kp hD hk (by decide) (by decide), iA_kp hA hk (by decide) (by decide), iS_kp hS hk (by decide) (by decide), iJ_kp hJ hk (by decide) (by decide), hiE, iF_kp hF hk (by decide) (by decide), iP_kp hP hk (by decide) (by decide), iH_kp hH hk (by decide) (by decide)⟩
theorem Inv_F {hp hq : qb_H} (h : Inv hp) (hiF : qb_iF hq) (hk : kp [40, 41, 42, 43, 44, 74, 75, 76] [18] hp hq) : Inv hq := by
  obtain ⟨n, hB, hw, hD, hA, hS, hJ, hE, hF, hP, hH⟩ := h
  have e13 : hq 13 = hp 13 := hk.1 13 (by decide) (by decide)
  exact ⟨n, iB_kp hB hk (by decide) (by decide), by rw [wr_go e13]; exact hw, iD_kp hD hk (by decide) (by decide), iA_kp hA hk (by decide) (by decide), iS_kp hS hk (by decide) (by decide), iJ_kp hJ hk (by decide) (by decide), iE_kp hE hk (by decide) (by decide), hiF, iP_kp hP hk (by decide) (by decide), iH_kp hH hk (by decide) (by decide)⟩
theorem Inv_P {hp hq : qb_H} (h : Inv hp) (hiP : qb_iP hq) (hk : kp [45, 46, 47, 48, 49, 79, 80, 81, 82] [24] hp hq) : Inv hq := by
  obtain ⟨n, hB, hw, hD, hA, hS, hJ, hE, hF, hP, hH⟩ := h
  have e13 : hq 13 = hp 13 := hk.1 13 (by decide) (by decide)
  exact ⟨n, iB_kp hB hk (by decide) (by decide), by rw [wr_go e13]; exact hw, iD_kp hD hk (by decide) (by decide), iA_kp hA hk (by decide) (by decide), iS_kp hS hk (by decide) (by decide), iJ_kp hJ hk (by decide) (by decide), iE_kp hE hk (by decide) (by decide), iF_kp hF hk (by decide) (by decide), hiP, iH_kp hH hk (by decide) (by decide)⟩
theorem Inv_H {hp hq : qb_H} (h : Inv hp) (hiH : qb_iH hq) (hk : kp [55, 56, 77, 78] [] hp hq) : Inv hq := by
  obtain ⟨n, hB, hw, hD, hA, hS, hJ, hE, hF, hP, hH⟩ := h
  have e13 : hq 13 = hp 13 := hk.1 13 (by decide) (by decide)
  exact ⟨n, iB_kp hB hk (by decide) (by decide), by rw [wr_go e13]; exact hw, iD_kp hD hk (by decide) (by decide), iA_kp hA hk (by decide) (by decide), iS_kp hS hk (by decide) (by decide), iJ_kp hJ hk (by decide) (by decide), iE_kp hE hk (by decide) (by decide), iF_kp hF hk (by decide) (by decide), iP_kp hP hk (by decide) (by decide), hiH⟩
theorem Inv_set {hp hq : qb_H} {m : Nat} (h : Inv hp) (hB : qb_iB hq m) (hw : wr hq m ≤ 5) (hk : kp [21, 22, 65, 66] [] hp hq) : Inv hq := by
  obtain ⟨n, -, -, hD, hA, hS, hJ, hE, hF, hP, hH⟩ := h
  exact ⟨m, hB, hw, iD_kp hD hk (by decide) (by decide), iA_kp hA hk (by decide) (by decide), iS_kp hS hk (by decide) (by decide), iJ_kp hJ hk (by decide) (by decide), iE_kp hE hk (by decide) (by decide), iF_kp hF hk (by decide) (by decide), iP_kp hP hk (by decide) (by decide), iH_kp hH hk (by decide) (by decide)⟩
theorem Inv_rule {hp hq : qb_H} {m : Nat} (h : Inv hp) (hB : qb_iB hq m) (hw : wr hq m ≤ 5) (hk : kp [10, 67] [] hp hq) : Inv hq := by
  obtain ⟨n, -, -, hD, hA, hS, hJ, hE, hF, hP, hH⟩ := h
  exact ⟨m, hB, hw, iD_kp hD hk (by decide) (by decide), iA_kp hA hk (by decide) (by decide), iS_kp hS hk (by decide) (by decide), iJ_kp hJ hk (by decide) (by decide), iE_kp hE hk (by decide) (by decide), iF_kp hF hk (by decide) (by decide), iP_kp hP hk (by decide) (by decide), iH_kp hH hk (by decide) (by decide)⟩
theorem Inv_lead {hp hq : qb_H} {m : Nat} (h : Inv hp) (hB : qb_iB hq m) (hw : wr hq m ≤ 5) (hk : kp [13, 68] [] hp hq) : Inv hq := by
  obtain ⟨n, -, -, hD, hA, hS, hJ, hE, hF, hP, hH⟩ := h
  exact ⟨m, hB, hw, iD_kp hD hk (by decide) (by decide), iA_kp hA hk (by decide) (by decide), iS_kp hS hk (by decide) (by decide), iJ_kp hJ hk (by decide) (by decide), iE_kp hE hk (by decide) (by decide), iF_kp hF hk (by decide) (by decide), iP_kp hP hk (by decide) (by decide), iH_kp hH hk (by decide) (by decide)⟩
theorem Inv_land {hp hq : qb_H} {m : Nat} (h : Inv hp) (hB : qb_iB hq m) (hw : wr hq m ≤ 5) (hk : kp [11, 12, 13, 14, 15, 16, 17, 68] [9] hp hq) : Inv hq := by
  obtain ⟨n, -, -, hD, hA, hS, hJ, hE, hF, hP, hH⟩ := h
  exact ⟨m, hB, hw, iD_kp hD hk (by decide) (by decide), iA_kp hA hk (by decide) (by decide), iS_kp hS hk (by decide) (by decide), iJ_kp hJ hk (by decide) (by decide), iE_kp hE hk (by decide) (by decide), iF_kp hF hk (by decide) (by decide), iP_kp hP hk (by decide) (by decide), iH_kp hH hk (by decide) (by decide)⟩
theorem Inv_settle {hp hq : qb_H} {m : Nat} (h : Inv hp) (hB : qb_iB hq m) (hw : wr hq m ≤ 5) (hk : kp [13, 50, 51, 52, 53, 68, 83, 84, 85, 86, 87] [33, 38, 39, 45, 46, 47] hp hq) : Inv hq := by
  obtain ⟨n, -, -, hD, hA, hS, hJ, hE, hF, hP, hH⟩ := h
  exact ⟨m, hB, hw, iD_kp hD hk (by decide) (by decide), iA_kp hA hk (by decide) (by decide), iS_kp hS hk (by decide) (by decide), iJ_kp hJ hk (by decide) (by decide), iE_kp hE hk (by decide) (by decide), iF_kp hF hk (by decide) (by decide), iP_kp hP hk (by decide) (by decide), iH_kp hH hk (by decide) (by decide)⟩
theorem call_say (x1 : Int) {hp : qb_H} (h : Inv hp) {K : Int → Int → qb_H → Prop} (hK : ∀ (v : Int) (hq : qb_H), Inv hq → K v v hq) : c_q_say x1 hp (fun v hp1 => c_m_say x1 hp1 (fun w hp2 => K v w hp2)) := by
  have hI := h
  obtain ⟨n, hB, hw, hD, hA, hS, hJ, hE, hF, hP, hH⟩ := h
  exact say_ok x1 hp _ hD (fun v hq h1 hk => hK v hq (Inv_D hI h1 hk))
theorem call_wipe {hp : qb_H} (h : Inv hp) {K : Int → Int → qb_H → Prop} (hK : ∀ (v : Int) (hq : qb_H), Inv hq → K v v hq) : c_q_wipe hp (fun v hp1 => c_m_wipe hp1 (fun w hp2 => K v w hp2)) := by
  have hI := h
  obtain ⟨n, hB, hw, hD, hA, hS, hJ, hE, hF, hP, hH⟩ := h
  exact wipe_ok hp _ hD (fun v hq h1 hk => hK v hq (Inv_D hI h1 hk))
theorem call_fault {hp : qb_H} (h : Inv hp) {K : Int → Int → qb_H → Prop} (hK : ∀ (v : Int) (hq : qb_H), Inv hq → K v v hq) : c_q_fault hp (fun v hp1 => c_m_fault hp1 (fun w hp2 => K v w hp2)) := by
  have hI := h
  obtain ⟨n, hB, hw, hD, hA, hS, hJ, hE, hF, hP, hH⟩ := h
  exact fault_ok hp _ hD (fun v => hK v hp hI)
theorem call_act (x1 : Int) {hp : qb_H} (h : Inv hp) {K : Int → Int → qb_H → Prop} (hK : ∀ (v : Int) (hq : qb_H), Inv hq → K v v hq) : c_q_act x1 hp (fun v hp1 => c_m_act x1 hp1 (fun w hp2 => K v w hp2)) := by
  have hI := h
  obtain ⟨n, hB, hw, hD, hA, hS, hJ, hE, hF, hP, hH⟩ := h
  exact act_ok x1 hp _ hD hA (fun v hq h1 h2 hk => hK v hq (Inv_DA hI h1 h2 hk))
theorem call_brand (x1 x2 x3 : Int) {hp : qb_H} (h : Inv hp) {K : Int → Int → qb_H → Prop} (hK : ∀ (v : Int) (hq : qb_H), Inv hq → K v v hq) : c_q_brand x1 x2 x3 hp (fun v hp1 => c_m_brand x1 x2 x3 hp1 (fun w hp2 => K v w hp2)) := by
  have hI := h
  obtain ⟨n, hB, hw, hD, hA, hS, hJ, hE, hF, hP, hH⟩ := h
  exact brand_ok x1 x2 x3 hB hA hS (fun v hq hk => hK v hq (Inv_kS hI hk))
theorem call_grade (x1 x2 : Int) {hp : qb_H} (h : Inv hp) {K : Int → Int → qb_H → Prop} (hK : ∀ (v : Int) (hq : qb_H), Inv hq → K v v hq) : c_q_grade x1 x2 hp (fun v hp1 => c_m_grade x1 x2 hp1 (fun w hp2 => K v w hp2)) := by
  have hI := h
  obtain ⟨n, hB, hw, hD, hA, hS, hJ, hE, hF, hP, hH⟩ := h
  exact grade_ok x1 x2 hp _ hA (fun v => hK v hp hI)
theorem call_set (x1 x2 x3 : Int) {hp : qb_H} (h : Inv hp) {K : Int → Int → qb_H → Prop} (hK : ∀ (v : Int) (hq : qb_H), Inv hq → K v v hq) : c_q_set x1 x2 x3 hp (fun v hp1 => c_m_set x1 x2 x3 hp1 (fun w hp2 => K v w hp2)) := by
  have hI := h
  obtain ⟨n, hB, hw, hD, hA, hS, hJ, hE, hF, hP, hH⟩ := h
  exact set_ok2 x1 x2 x3 hp _ hB (fun v hq h1 hk => hK v hq (Inv_set hI h1 (by rw [wr_go (hk.1 13 (by decide) (by decide))]; exact hw) hk))
theorem call_rule (x1 x2 : Int) {hp : qb_H} (h : Inv hp) {K : Int → Int → qb_H → Prop} (hK : ∀ (v : Int) (hq : qb_H), Inv hq → K v v hq) : c_q_rule x1 x2 hp (fun v hp1 => c_m_rule x1 x2 hp1 (fun w hp2 => K v w hp2)) := by
  have hI := h
  obtain ⟨n, hB, hw, hD, hA, hS, hJ, hE, hF, hP, hH⟩ := h
  exact rule_ok x1 x2 hp _ hB (fun v hq h1 hk => hK v hq (Inv_rule hI h1 (by rw [wr_go (hk.1 13 (by decide) (by decide))]; exact hw) hk))
theorem call_land (x1 x2 x3 x4 x5 : Int) {hp : qb_H} (h : Inv hp) {K : Int → Int → qb_H → Prop} (hK : ∀ (v : Int) (hq : qb_H), Inv hq → K v v hq) : c_q_land x1 x2 x3 x4 x5 hp (fun v hp1 => c_m_land x1 x2 x3 x4 x5 hp1 (fun w hp2 => K v w hp2)) := by
  have hI := h
  obtain ⟨n, hB, hw, hD, hA, hS, hJ, hE, hF, hP, hH⟩ := h
  exact land_ok x1 x2 x3 x4 x5 hp _ hB hw (fun v hq m h1 h2 hk => hK v hq (Inv_land hI h1 h2 hk))
theorem call_lead (x1 x2 : Int) {hp : qb_H} (h : Inv hp) {K : Int → Int → qb_H → Prop} (hK : ∀ (v : Int) (hq : qb_H), Inv hq → K v v hq) : c_q_lead x1 x2 hp (fun v hp1 => c_m_lead x1 x2 hp1 (fun w hp2 => K v w hp2)) := by
  have hI := h
  obtain ⟨n, hB, hw, hD, hA, hS, hJ, hE, hF, hP, hH⟩ := h
  exact lead_ok x1 x2 hp _ hB hw (fun v hq h1 h2 hk => hK v hq (Inv_lead hI h1 h2 hk))
theorem call_landing (x1 x2 : Int) {hp : qb_H} (h : Inv hp) {K : Int → Int → qb_H → Prop} (hK : ∀ (v : Int) (hq : qb_H), Inv hq → K v v hq) : c_q_landing x1 x2 hp (fun v hp1 => c_m_landing x1 x2 hp1 (fun w hp2 => K v w hp2)) := by
  have hI := h
  obtain ⟨n, hB, hw, hD, hA, hS, hJ, hE, hF, hP, hH⟩ := h
  exact landing_ok x1 x2 hB (fun v hq hk => hK v hq (Inv_kS hI hk))
theorem call_salt (x1 x2 x3 x4 : Int) {hp : qb_H} (h : Inv hp) {K : Int → Int → qb_H → Prop} (hK : ∀ (v : Int) (hq : qb_H), Inv hq → K v v hq) : c_q_salt x1 x2 x3 x4 hp (fun v hp1 => c_m_salt x1 x2 x3 x4 hp1 (fun w hp2 => K v w hp2)) := by
  have hI := h
  obtain ⟨n, hB, hw, hD, hA, hS, hJ, hE, hF, hP, hH⟩ := h
  exact salt_ok x1 x2 x3 x4 hp _ hS (fun v hq h1 hk => hK v hq (Inv_S hI h1 hk))
theorem call_barrel (x1 x2 x3 : Int) {hp : qb_H} (h : Inv hp) {K : Int → Int → qb_H → Prop} (hK : ∀ (v : Int) (hq : qb_H), Inv hq → K v v hq) : c_q_barrel x1 x2 x3 hp (fun v hp1 => c_m_barrel x1 x2 x3 hp1 (fun w hp2 => K v w hp2)) := by
  have hI := h
  obtain ⟨n, hB, hw, hD, hA, hS, hJ, hE, hF, hP, hH⟩ := h
  exact barrel_ok x1 x2 x3 hB hS (fun v hq hk => hK v hq (Inv_kS hI hk))
theorem call_filled (x1 x2 x3 x4 : Int) {hp : qb_H} (h : Inv hp) {K : Int → Int → qb_H → Prop} (hK : ∀ (v : Int) (hq : qb_H), Inv hq → K v v hq) : c_q_filled x1 x2 x3 x4 hp (fun v hp1 => c_m_filled x1 x2 x3 x4 hp1 (fun w hp2 => K v w hp2)) := by
  have hI := h
  obtain ⟨n, hB, hw, hD, hA, hS, hJ, hE, hF, hP, hH⟩ := h
  exact filled_ok x1 x2 x3 x4 hB hA hS (fun v hq hk => hK v hq (Inv_kS hI hk))
theorem call_open (x1 x2 x3 : Int) {hp : qb_H} (h : Inv hp) {K : Int → Int → qb_H → Prop} (hK : ∀ (v : Int) (hq : qb_H), Inv hq → K v v hq) : c_q_open x1 x2 x3 hp (fun v hp1 => c_m_open x1 x2 x3 hp1 (fun w hp2 => K v w hp2)) := by
  have hI := h
  obtain ⟨n, hB, hw, hD, hA, hS, hJ, hE, hF, hP, hH⟩ := h
  exact open_ok x1 x2 x3 hp _ (fun v => hK v hp hI)
theorem call_judge (x1 x2 x3 x4 : Int) {hp : qb_H} (h : Inv hp) {K : Int → Int → qb_H → Prop} (hK : ∀ (v : Int) (hq : qb_H), Inv hq → K v v hq) : c_q_judge x1 x2 x3 x4 hp (fun v hp1 => c_m_judge x1 x2 x3 x4 hp1 (fun w hp2 => K v w hp2)) := by
  have hI := h
  obtain ⟨n, hB, hw, hD, hA, hS, hJ, hE, hF, hP, hH⟩ := h
  exact judge_ok x1 x2 x3 x4 hp _ hJ (fun v hq h1 hk => hK v hq (Inv_J hI h1 hk))
theorem call_absolve {hp : qb_H} (h : Inv hp) {K : Int → Int → qb_H → Prop} (hK : ∀ (v : Int) (hq : qb_H), Inv hq → K v v hq) : c_q_absolve hp (fun v hp1 => c_m_absolve hp1 (fun w hp2 => K v w hp2)) := by
  have hI := h
  obtain ⟨n, hB, hw, hD, hA, hS, hJ, hE, hF, hP, hH⟩ := h
  exact absolve_ok hp _ hJ (fun v hq h1 hk => hK v hq (Inv_J hI h1 hk))
theorem call_cause (x1 : Int) {hp : qb_H} (h : Inv hp) {K : Int → Int → qb_H → Prop} (hK : ∀ (v : Int) (hq : qb_H), Inv hq → K v v hq) : c_q_cause x1 hp (fun v hp1 => c_m_cause x1 hp1 (fun w hp2 => K v w hp2)) := by
  have hI := h
  obtain ⟨n, hB, hw, hD, hA, hS, hJ, hE, hF, hP, hH⟩ := h
  exact cause_ok x1 hp _ hJ (fun v => hK v hp hI)
theorem call_explained {hp : qb_H} (h : Inv hp) {K : Int → Int → qb_H → Prop} (hK : ∀ (v : Int) (hq : qb_H), Inv hq → K v v hq) : c_q_explained hp (fun v hp1 => c_m_explained hp1 (fun w hp2 => K v w hp2)) := by
  have hI := h
  obtain ⟨n, hB, hw, hD, hA, hS, hJ, hE, hF, hP, hH⟩ := h
  exact explained_ok hp _ hJ (fun v hq hk => hK v hq (Inv_kS hI hk))
theorem call_rival (x1 x2 : Int) {hp : qb_H} (h : Inv hp) {K : Int → Int → qb_H → Prop} (hK : ∀ (v : Int) (hq : qb_H), Inv hq → K v v hq) : c_q_rival x1 x2 hp (fun v hp1 => c_m_rival x1 x2 hp1 (fun w hp2 => K v w hp2)) := by
  have hI := h
  obtain ⟨n, hB, hw, hD, hA, hS, hJ, hE, hF, hP, hH⟩ := h
  exact rival_ok x1 x2 hp _ hJ (fun v hq hk => hK v hq (Inv_kS hI hk))
theorem call_engage (x1 x2 x3 x4 : Int) {hp : qb_H} (h : Inv hp) {K : Int → Int → qb_H → Prop} (hK : ∀ (v : Int) (hq : qb_H), Inv hq → K v v hq) : c_q_engage x1 x2 x3 x4 hp (fun v hp1 => c_m_engage x1 x2 x3 x4 hp1 (fun w hp2 => K v w hp2)) := by
  have hI := h
  obtain ⟨n, hB, hw, hD, hA, hS, hJ, hE, hF, hP, hH⟩ := h
  exact engage_ok x1 x2 x3 x4 hp _ hE (fun v hq h1 hk => hK v hq (Inv_E hI h1 hk))
theorem call_free (x1 x2 x3 : Int) {hp : qb_H} (h : Inv hp) {K : Int → Int → qb_H → Prop} (hK : ∀ (v : Int) (hq : qb_H), Inv hq → K v v hq) : c_q_free x1 x2 x3 hp (fun v hp1 => c_m_free x1 x2 x3 hp1 (fun w hp2 => K v w hp2)) := by
  have hI := h
  obtain ⟨n, hB, hw, hD, hA, hS, hJ, hE, hF, hP, hH⟩ := h
  exact free_ok x1 x2 x3 hp _ hF (fun v hq h1 hk => hK v hq (Inv_F hI h1 hk))
theorem call_freeOn (x1 x2 : Int) {hp : qb_H} (h : Inv hp) {K : Int → Int → qb_H → Prop} (hK : ∀ (v : Int) (hq : qb_H), Inv hq → K v v hq) : c_q_freeOn x1 x2 hp (fun v hp1 => c_m_freeOn x1 x2 hp1 (fun w hp2 => K v w hp2)) := by
  have hI := h
  obtain ⟨n, hB, hw, hD, hA, hS, hJ, hE, hF, hP, hH⟩ := h
  exact freeOn_ok x1 x2 hF (fun v => hK v hp hI)
theorem call_cost (x1 x2 x3 x4 : Int) {hp : qb_H} (h : Inv hp) {K : Int → Int → qb_H → Prop} (hK : ∀ (v : Int) (hq : qb_H), Inv hq → K v v hq) : c_q_cost x1 x2 x3 x4 hp (fun v hp1 => c_m_cost x1 x2 x3 x4 hp1 (fun w hp2 => K v w hp2)) := by
  have hI := h
  obtain ⟨n, hB, hw, hD, hA, hS, hJ, hE, hF, hP, hH⟩ := h
  exact cost_ok x1 x2 x3 x4 hB hE hF (fun v hq hk => hK v hq (Inv_kS hI hk))
theorem call_account (x1 x2 x3 : Int) {hp : qb_H} (h : Inv hp) {K : Int → Int → qb_H → Prop} (hK : ∀ (v : Int) (hq : qb_H), Inv hq → K v v hq) : c_q_account x1 x2 x3 hp (fun v hp1 => c_m_account x1 x2 x3 hp1 (fun w hp2 => K v w hp2)) := by
  have hI := h
  obtain ⟨n, hB, hw, hD, hA, hS, hJ, hE, hF, hP, hH⟩ := h
  exact account_ok x1 x2 x3 hB hA hS hE hF (fun v hq hk => hK v hq (Inv_kS hI hk))
theorem call_spread (x1 : Int) {hp : qb_H} (h : Inv hp) {K : Int → Int → qb_H → Prop} (hK : ∀ (v : Int) (hq : qb_H), Inv hq → K v v hq) : c_q_spread x1 hp (fun v hp1 => c_m_spread x1 hp1 (fun w hp2 => K v w hp2)) := by
  have hI := h
  obtain ⟨n, hB, hw, hD, hA, hS, hJ, hE, hF, hP, hH⟩ := h
  exact spread_ok x1 hB hw (fun v hq hk => hK v hq (Inv_kS hI hk))
theorem call_settle {hp : qb_H} (h : Inv hp) {K : Int → Int → qb_H → Prop} (hK : ∀ (v : Int) (hq : qb_H), Inv hq → K v v hq) : c_q_settle hp (fun v hp1 => c_m_settle hp1 (fun w hp2 => K v w hp2)) := by
  have hI := h
  obtain ⟨n, hB, hw, hD, hA, hS, hJ, hE, hF, hP, hH⟩ := h
  exact settle_ok hB hw (fun v hq h1 h2 hk => hK v hq (Inv_settle hI h1 h2 hk))
theorem call_ship (x1 x2 x3 : Int) {hp : qb_H} (h : Inv hp) {K : Int → Int → qb_H → Prop} (hK : ∀ (v : Int) (hq : qb_H), Inv hq → K v v hq) : c_q_ship x1 x2 x3 hp (fun v hp1 => c_m_ship x1 x2 x3 hp1 (fun w hp2 => K v w hp2)) := by
  have hI := h
  obtain ⟨n, hB, hw, hD, hA, hS, hJ, hE, hF, hP, hH⟩ := h
  exact ship_ok x1 x2 x3 hp _ hH (fun v hq h1 hk => hK v hq (Inv_H hI h1 hk))
theorem call_price (x1 x2 x3 x4 : Int) {hp : qb_H} (h : Inv hp) {K : Int → Int → qb_H → Prop} (hK : ∀ (v : Int) (hq : qb_H), Inv hq → K v v hq) : c_q_price x1 x2 x3 x4 hp (fun v hp1 => c_m_price x1 x2 x3 x4 hp1 (fun w hp2 => K v w hp2)) := by
  have hI := h
  obtain ⟨n, hB, hw, hD, hA, hS, hJ, hE, hF, hP, hH⟩ := h
  exact price_ok x1 x2 x3 x4 hp _ hP (fun v hq h1 hk => hK v hq (Inv_P hI h1 hk))
theorem call_priceOn (x1 x2 x3 : Int) {hp : qb_H} (h : Inv hp) {K : Int → Int → qb_H → Prop} (hK : ∀ (v : Int) (hq : qb_H), Inv hq → K v v hq) : c_q_priceOn x1 x2 x3 hp (fun v hp1 => c_m_priceOn x1 x2 x3 hp1 (fun w hp2 => K v w hp2)) := by
  have hI := h
  obtain ⟨n, hB, hw, hD, hA, hS, hJ, hE, hF, hP, hH⟩ := h
  exact priceOn_ok x1 x2 x3 hP (fun v => hK v hp hI)
theorem call_load (x1 x2 x3 x4 : Int) {hp : qb_H} (h : Inv hp) {K : Int → Int → qb_H → Prop} (hK : ∀ (v : Int) (hq : qb_H), Inv hq → K v v hq) : c_q_load x1 x2 x3 x4 hp (fun v hp1 => c_m_load x1 x2 x3 x4 hp1 (fun w hp2 => K v w hp2)) := by
  have hI := h
  obtain ⟨n, hB, hw, hD, hA, hS, hJ, hE, hF, hP, hH⟩ := h
  exact load_ok x1 x2 x3 x4 hP hH (fun v hq hk => hK v hq (Inv_kS hI hk))
theorem call_told (x1 : Int) {hp : qb_H} (h : Inv hp) {K : Int → Int → qb_H → Prop} (hK : ∀ (v : Int) (hq : qb_H), Inv hq → K v v hq) : c_q_told x1 hp (fun v hp1 => c_m_told x1 hp1 (fun w hp2 => K v w hp2)) := by
  have hI := h
  obtain ⟨n, hB, hw, hD, hA, hS, hJ, hE, hF, hP, hH⟩ := h
  exact told_ok x1 hB hD.1 hA.1 hS.1 hJ.1 hF.1 hP.1 (fun v hq hk => hK v hq (Inv_kS hI hk))
