/-! the heap after the constructors has the invariant -/
def zlk : List (Nat × Option (Int × Int)) → Nat → Int → Option Int
  | [], _, _ => none
  | (c', none) :: r, c, i => if c = c' then some 0 else zlk r c i
  | (c', some (i', v)) :: r, c, i => if c = c' ∧ i = i' then some v else zlk r c i
theorem zlk_ok {hp : qb_H} {c : Nat} {i : Int} : ∀ (ops : List (Nat × Option (Int × Int))) (v : Int), zlk ops c i = some v → zH ops hp c i = v
  | [], v, h => by cases h
  | (c', none) :: r, v, h => by
    show qb_zero (zH r hp) c' c i = v
    unfold zlk at h; unfold qb_zero
    by_cases e : c = c'
    · rw [if_pos e] at h ⊢; exact Option.some.inj h
    · rw [if_neg e] at h ⊢; exact zlk_ok r v h
  | (c', some (i', w)) :: r, v, h => by
    show qb_st (zH r hp) c' i' w c i = v
    unfold zlk at h; unfold qb_st
    by_cases e : c = c'
    · by_cases e2 : i = i'
      · rw [if_pos ⟨e, e2⟩] at h; rw [if_pos e, if_pos e2]; exact Option.some.inj h
      · rw [if_neg (fun z => e2 z.2)] at h; rw [if_pos e, if_neg e2, ← e]; exact zlk_ok r v h
    · rw [if_neg (fun z => e z.1)] at h; rw [if_neg e]; exact zlk_ok r v h
def zzc : List (Nat × Option (Int × Int)) → Nat → Bool
  | [], _ => false
  | (c', none) :: r, c => if c = c' then true else zzc r c
  | (c', some _) :: r, c => if c = c' then false else zzc r c
theorem zz_ok {hp : qb_H} {c : Nat} (i : Int) : ∀ (ops : List (Nat × Option (Int × Int))), zzc ops c = true → zH ops hp c i = 0
  | [], h => by cases h
  | (c', none) :: r, h => by
    show qb_zero (zH r hp) c' c i = 0
    unfold zzc at h; unfold qb_zero
    by_cases e : c = c'
    · rw [if_pos e]
    · rw [if_neg e] at h ⊢; exact zz_ok i r h
  | (c', some (i', w)) :: r, h => by
    show qb_st (zH r hp) c' i' w c i = 0
    unfold zzc at h; unfold qb_st
    by_cases e : c = c'
    · rw [if_pos e] at h; cases h
    · rw [if_neg e] at h ⊢; exact zz_ok i r h
theorem zn_ok {hp : qb_H} {c : Nat} : ∀ (ops : List (Nat × Option (Int × Int))), (ops.all fun q => q.1 != c) = true → zH ops hp c = hp c
  | [], _ => rfl
  | (c', none) :: r, h => by
    simp only [List.all_cons, Bool.and_eq_true, bne_iff_ne] at h
    show qb_zero (zH r hp) c' c = hp c
    unfold qb_zero; rw [if_neg (Ne.symm h.1)]; exact zn_ok r h.2
  | (c', some (i', w)) :: r, h => by
    simp only [List.all_cons, Bool.and_eq_true, bne_iff_ne] at h
    show qb_st (zH r hp) c' i' w c = hp c
    rw [qb_st_ne (Ne.symm h.1)]; exact zn_ok r h.2
def zh (hp : qb_H) : qb_H := zH zo139 hp
theorem zh_0 {hp : qb_H} {c : Nat} (i : Int) (h : zzc zo139 c = true) : zh hp c i = 0 := zz_ok i _ h
theorem zh_v {hp : qb_H} {c : Nat} {i v : Int} (h : zlk zo139 c i = some v) : zh hp c i = v := zlk_ok _ v h
theorem zh_n {hp : qb_H} {c : Nat} (h : (zo139.all fun q => q.1 != c) = true) : zh hp c = hp c := zn_ok _ h
theorem zh_l {hp : qb_H} {c : Nat} {n : Nat} {v : Int} (h : ((List.range n).all fun i => zlk zo139 c (i : Int) == some v) = true) {i : Int} (h0 : 0 ≤ i) (h1 : i < n) : zh hp c i = v := by
  have := List.all_eq_true.mp h i.toNat (List.mem_range.mpr (by omega))
  rw [Int.toNat_of_nonneg h0] at this
  exact zh_v (by simpa using this)
theorem zh_e {hp : qb_H} {c d : Nat} {n : Nat} (h : ((List.range n).all fun i => zlk zo139 c (i : Int) == zlk zo139 d (i : Int) && (zlk zo139 c (i : Int)).isSome) = true) {i : Int} (h0 : 0 ≤ i) (h1 : i < n) : zh hp c i = zh hp d i := by
  have := List.all_eq_true.mp h i.toNat (List.mem_range.mpr (by omega))
  rw [Int.toNat_of_nonneg h0] at this
  simp only [Bool.and_eq_true, beq_iff_eq] at this
  rcases hv : zlk zo139 c i with _ | v
  · rw [hv] at this; simp at this
  · rw [zh_v hv, zh_v (this.1.symm.trans hv)]
theorem zh_iL {hp : qb_H} : qb_iL (zh hp) 0 := by
  have e1 : zh hp 11 13 = 0 := zh_0 _ (by decide +kernel)
  refine ⟨e1, by decide, fun p h => absurd h (by omega), fun k h0 h1 => absurd h1 (by omega), fun p q _ h => absurd h (by omega), fun F => rfl, fun q h0 h1 => ?_, ?_⟩
  · rw [zh_l (c := 21) (n := 4) (v := 1) (by decide +kernel) h0 h1, zh_l (c := 22) (n := 4) (v := 500) (by decide +kernel) h0 h1]; decide
  · rw [zh_v (c := 10) (i := 0) (v := 24) (by decide +kernel), zh_v (c := 10) (i := 1) (v := 800) (by decide +kernel), zh_v (c := 10) (i := 2) (v := 40) (by decide +kernel), zh_v (c := 10) (i := 3) (v := 10) (by decide +kernel), zh_v (c := 10) (i := 4) (v := 1000) (by decide +kernel), zh_v (c := 10) (i := 5) (v := 5) (by decide +kernel), zh_v (c := 10) (i := 6) (v := 4) (by decide +kernel)]
    decide
theorem zh_iB {hp : qb_H} : qb_iB (zh hp) 0 :=
  ⟨zh_iL, zh_0 _ (by decide +kernel), fun k h0 h1 => absurd h1 (by omega), fun q h0 h1 => ⟨zh_e (n := 4) (by decide +kernel) h0 h1, zh_e (n := 4) (by decide +kernel) h0 h1⟩, fun j h0 h1 => zh_e (n := 7) (by decide +kernel) h0 h1⟩
theorem zh_inv {hp : qb_H} : Inv (zh hp) := by
  have z (c : Nat) (i : Int) (h : zzc zo139 c = true) : zh hp c i = 0 := zh_0 i h
  have z60 (i : Int) : zh hp 60 i = 0 := z 60 i (by decide +kernel)
  refine ⟨0, zh_iB, by show (0 : Int) ≤ 5; decide, ?_, ?_, ?_, ?_, ?_, ?_, ?_, ?_⟩
  · exact ⟨by rw [z 1 _ (by decide +kernel), z60], by rw [z60]; decide, fun k h0 h1 => absurd h1 (by rw [z60]; omega)⟩
  · exact ⟨by rw [z 3 _ (by decide +kernel), z60], by rw [z60]; decide, fun k h0 h1 => absurd h1 (by rw [z60]; omega)⟩
  · exact ⟨by rw [z 26 _ (by decide +kernel), z60], by rw [z60]; decide, fun k h0 h1 => absurd h1 (by rw [z60]; omega)⟩
  · refine ⟨by rw [z 32 _ (by decide +kernel), z60], by rw [z60]; decide, fun c _ _ => ⟨0, z 33 _ (by decide +kernel), by decide, fun kz => ?_⟩, ⟨0, z 32 _ (by decide +kernel), by decide, fun kz => ?_⟩, fun k h0 h1 => absurd h1 (by rw [z60]; omega)⟩
    · rw [z60]; simp; omega
    · rw [z60]; simp; omega
  · intro b h0 h1
    rw [z 38 _ (by decide +kernel), z 72 _ (by decide +kernel), z 39 _ (by decide +kernel), z 73 _ (by decide +kernel), zh_l (c := 37) (n := 10) (v := -1) (by decide +kernel) h0 h1, zh_l (c := 71) (n := 10) (v := -1) (by decide +kernel) h0 h1]
    decide
  · exact ⟨by rw [z 40 _ (by decide +kernel), z60], by rw [z60]; decide, fun k h0 h1 => absurd h1 (by rw [z60]; omega)⟩
  · exact ⟨by rw [z 45 _ (by decide +kernel), z60], by rw [z60]; decide, fun k h0 h1 => absurd h1 (by rw [z60]; omega)⟩
  · refine ⟨fun s _ _ => ?_, fun j _ => z 59 _ (by decide +kernel)⟩
    rw [z 55 _ (by decide +kernel), z 56 _ (by decide +kernel), z 77 _ (by decide +kernel), z 78 _ (by decide +kernel)]
    decide
