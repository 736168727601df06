/-! the reference works a quay hour by hour: the same schedule -/
def mi_D (g : sc_G) (p : Nat) (u : Int) : Int := max 0 (min (sc_W g p) (u - sc_S g p))
def qb_mg (hp : qb_H) (g : sc_G) (n : Nat) (Q : Int) : Prop :=
  hp 60 9 = n ∧ n ≤ 30 ∧ sc_ok g n ∧ (0 ≤ Q ∧ Q < 4) ∧
  (∀ k : Int, 0 ≤ k → k < n → hp 68 (7 * k + 2) = sc_h g k ∧ hp 68 (7 * k + 3) = sc_f g k ∧ (hp 68 (7 * k + 1) = Q ↔ sc_a g k = true)) ∧
  hp 65 Q * hp 66 Q = sc_p g ∧ hp 67 0 = sc_s g
def mi_fr (hp0 hp : qb_H) : Prop :=
  (∀ c : Nat, c ≠ 60 → c ≠ 68 → c ≠ 83 → c ≠ 84 → c ≠ 85 → c ≠ 86 → hp c = hp0 c) ∧
  (∀ j : Int, j ≠ 33 → j ≠ 38 → j ≠ 39 → hp 60 j = hp0 60 j) ∧
  (∀ kz i : Int, 0 ≤ i → i < 5 → hp 68 (7 * kz + i) = hp0 68 (7 * kz + i))
theorem mi_fr.rf {hp : qb_H} : mi_fr hp hp := ⟨fun _ _ _ _ _ _ _ => rfl, fun _ _ _ _ => rfl, fun _ _ _ _ => rfl⟩
theorem mi_fr.tr {a b c : qb_H} (h : mi_fr a b) (h' : mi_fr b c) : mi_fr a c := ⟨fun x h1 h2 h3 h4 h5 h6 => (h'.1 x h1 h2 h3 h4 h5 h6).trans (h.1 x h1 h2 h3 h4 h5 h6), fun j h1 h2 h3 => (h'.2.1 j h1 h2 h3).trans (h.2.1 j h1 h2 h3), fun kz i h1 h2 => (h'.2.2 kz i h1 h2).trans (h.2.2 kz i h1 h2)⟩
theorem qb_mg.go {hp0 hp : qb_H} {g : sc_G} {n : Nat} {Q : Int} (h : qb_mg hp0 g n Q) (hf : mi_fr hp0 hp) : qb_mg hp g n Q := by
  obtain ⟨h1, h2, h3, h4, h5, h6, h7⟩ := h
  obtain ⟨f1, f2, f3⟩ := hf
  refine ⟨by rw [f2 9 (by decide) (by decide) (by decide)]; exact h1, h2, h3, h4, fun kz a b => ?_, ?_, ?_⟩
  · rw [f3 kz 2 (by decide) (by decide), f3 kz 3 (by decide) (by decide), f3 kz 1 (by decide) (by decide)]
    exact h5 kz a b
  · rw [f1 65 (by decide) (by decide) (by decide) (by decide) (by decide) (by decide), f1 66 (by decide) (by decide) (by decide) (by decide) (by decide) (by decide)]
    exact h6
  · rw [f1 67 (by decide) (by decide) (by decide) (by decide) (by decide) (by decide)]
    exact h7
/-- one piece of work: whose, in which hour, how many; where it stands among all fish worked -/
def mi_pc (g : sc_G) (n : Nat) (hp : qb_H) (j : Nat) : Prop := ∃ p : Nat, p < n ∧ sc_a g (sc_o g p) = true ∧ hp 83 j = sc_o g p ∧ 1 ≤ hp 85 j ∧ sc_T g p ≤ qb_sum (hp 85) j ∧ qb_sum (hp 85) j + hp 85 j ≤ sc_T g p + sc_W g p ∧ hp 84 j * sc_p g ≤ sc_S g p + (qb_sum (hp 85) j - sc_T g p) ∧ sc_S g p + (qb_sum (hp 85) j - sc_T g p) + hp 85 j ≤ hp 84 j * sc_p g + sc_p g
def mi_one (g : sc_G) (hp : qb_H) (u : Int) (p : Nat) : Prop :=
  ((hp 86 (sc_o g p) = sc_f g (sc_o g p) - mi_D g p u ∧ hp 68 (7 * sc_o g p + 5) = 0) ∨ (hp 86 (sc_o g p) = 0 ∧ (sc_h g (sc_o g p) + sc_s g) * sc_p g ≤ u ∧ hp 68 (7 * sc_o g p + 5) = sc_f g (sc_o g p) - sc_W g p)) ∧
  hp 68 (7 * sc_o g p + 6) = (if mi_D g p u = 0 then -6 else (sc_S g p + mi_D g p u - 1) / sc_p g) ∧
  mi_D g p u = max 0 (min (sc_W g p) (hp 60 38 - sc_T g p))
def mi_cnt (g : sc_G) (hp : qb_H) (kz : Int) : Int := if sc_a g kz = true then (if hp 68 (7 * kz + 6) < 0 then 0 else hp 68 (7 * kz + 6) - sc_h g kz + 1) else 0
def mi (g : sc_G) (n : Nat) (hp : qb_H) (u : Int) : Prop :=
  (∀ kz : Int, 0 ≤ kz → kz < n → sc_a g kz = false → hp 86 kz = 0) ∧
  (∀ p : Nat, p < n → sc_a g (sc_o g p) = true → mi_one g hp u p) ∧
  (0 ≤ hp 60 38 ∧ hp 60 38 ≤ sc_T g n) ∧
  hp 60 39 = qb_sum (fun kz => if sc_a g kz = true then hp 68 (7 * kz + 5) else 0) n ∧
  (∃ mz : Nat, hp 60 33 = mz ∧ qb_sum (hp 85) mz = hp 60 38 ∧ (mz : Int) ≤ qb_sum (mi_cnt g hp) n ∧ ∀ j : Nat, j < mz → mi_pc g n hp j)
theorem mi_D0 (g : sc_G) (p : Nat) (u : Int) : 0 ≤ mi_D g p u ∧ mi_D g p u ≤ sc_W g p := by
  have := sc_W0 g p
  unfold mi_D; omega
/-- nothing to be worked till u': the same holds there -/
theorem mi_Dadv {g : sc_G} {n : Nat} (hk : sc_ok g n) {hp : qb_H} {u u' : Int} {p : Nat} (hp1 : p < n) (ho : mi_one g hp u p) (hu : u ≤ u') (hl : 0 < hp 86 (sc_o g p) → u' ≤ sc_h g (sc_o g p) * sc_p g) : mi_D g p u' = mi_D g p u := by
  have h1 := sc_W0 g p
  have h2 := sc_Wf hk hp1
  have h3 : sc_h g (sc_o g p) * sc_p g ≤ sc_S g p := by unfold sc_S; omega
  have h4 := fun hw => (sc_dl hk hp1 hw).1
  unfold mi_one at ho
  rcases ho.1 with ⟨a1, a2⟩ | ⟨a1, a2, a3⟩
  · by_cases c : 0 < hp 86 (sc_o g p)
    · have := hl c
      unfold mi_D; omega
    · unfold mi_D at a1 ⊢; omega
  · by_cases c : 0 < sc_W g p
    · have := h4 c
      unfold mi_D; omega
    · unfold mi_D; omega
theorem mi_adv {g : sc_G} {n : Nat} (hk : sc_ok g n) {hp : qb_H} {u u' : Int} (h : mi g n hp u) (hu : u ≤ u') (hl : ∀ p : Nat, p < n → sc_a g (sc_o g p) = true → 0 < hp 86 (sc_o g p) → u' ≤ sc_h g (sc_o g p) * sc_p g) : mi g n hp u' := by
  obtain ⟨h1, h2, h3⟩ := h
  refine ⟨h1, fun p hp1 ha => ?_, h3⟩
  have ho := h2 p hp1 ha
  have e := mi_Dadv hk hp1 ho hu (hl p hp1 ha)
  unfold mi_one at ho ⊢
  rw [e]
  refine ⟨?_, ho.2⟩
  rcases ho.1 with a | ⟨a1, a2, a3⟩
  · exact Or.inl a
  · exact Or.inr ⟨a1, by omega, a3⟩
theorem sc_inj {g : sc_G} {n : Nat} (hk : sc_ok g n) {p q : Nat} (hp : p < n) (hq : q < n) (h : sc_o g p = sc_o g q) : p = q := by
  rcases Nat.lt_trichotomy p q with c | c | c
  · have := hk.2.2.1 p q c hq
    rw [h] at this; omega
  · exact c
  · have := hk.2.2.1 q p c hp
    rw [h] at this; omega
/-- a sum in which one place has changed -/
theorem qb_sum_at {f f' : Int → Int} {n : Nat} {kz : Int} (h0 : 0 ≤ kz) (h1 : kz < n) (h : ∀ j : Int, 0 ≤ j → j < n → j ≠ kz → f' j = f j) : qb_sum f' n = qb_sum f n + (f' kz - f kz) := by
  induction n with
  | zero => omega
  | succ n ih =>
    simp only [qb_sum]
    by_cases e : kz = n
    · have := qb_sum_cg (f := f') (g := f) n (fun j hj => h j (by omega) (by omega) (by omega))
      rw [this, e]; omega
    · rw [ih (by omega) (fun j a b c => h j a (by omega) c), h n (by omega) (by omega) (by omega)]
      omega
theorem qb_dv {x H pc : Int} (h1 : H * pc ≤ x) (h2 : x < H * pc + pc) (h3 : 0 < pc) : x / pc = H := by
  apply Int.le_antisymm
  · apply Int.le_of_lt_add_one
    rw [Int.ediv_lt_iff_lt_mul h3, Int.add_mul, Int.one_mul]
    exact h2
  · rw [Int.le_ediv_iff_mul_le h3]
    exact h1
/-- spoilt landings go -/
def sp_new (hp : qb_H) (kz : Int) : qb_H := qb_st (qb_st (qb_st hp 68 (7 * kz + 5) (hp 86 kz)) 60 39 (hp 60 39 + hp 86 kz)) 86 kz 0
theorem sp_new_is (hp : qb_H) (kz : Int) :
    (∀ j, sp_new hp kz 86 j = if j = kz then 0 else hp 86 j) ∧ (∀ j, sp_new hp kz 68 j = if j = 7 * kz + 5 then hp 86 kz else hp 68 j) ∧ sp_new hp kz 60 39 = hp 60 39 + hp 86 kz ∧ (∀ j, j ≠ 39 → sp_new hp kz 60 j = hp 60 j) ∧ sp_new hp kz 83 = hp 83 ∧ sp_new hp kz 84 = hp 84 ∧ sp_new hp kz 85 = hp 85 := by
  refine ⟨?_, ?_, ?_, ?_, ?_, ?_, ?_⟩
  all_goals simp +contextual [sp_new, qb_st]
theorem sp_new_fr (hp : qb_H) (kz : Int) : mi_fr hp (sp_new hp kz) := by
  refine ⟨fun x h1 h2 h3 h4 h5 h6 => ?_, fun x h1 h2 h3 => (sp_new_is hp kz).2.2.2.1 x h3, fun x i h1 h2 => ?_⟩
  · unfold sp_new
    rw [qb_st_ne h6, qb_st_ne h1, qb_st_ne h2]
  · rw [(sp_new_is hp kz).2.1, if_neg (by omega)]
theorem mi_spoil {g : sc_G} {n : Nat} (hk : sc_ok g n) {hp : qb_H} {u kz : Int} (h : mi g n hp u) (h0 : 0 ≤ kz) (h1 : kz < n) (hl : 0 < hp 86 kz) (he : (sc_h g kz + sc_s g) * sc_p g ≤ u) :
    mi g n (sp_new hp kz) u := by
  obtain ⟨a1, a2, a3, a4, mz, b1, b2, b3, b4⟩ := h
  have hat : sc_a g kz = true := by
    cases hc : sc_a g kz
    · have := a1 kz h0 h1 hc; omega
    · rfl
  obtain ⟨p, hp1, hpk⟩ := hk.2.2.2.1 kz h0 h1
  have ho := a2 p hp1 (by rw [hpk]; exact hat)
  unfold mi_one at ho
  rw [hpk] at ho
  have w0 := sc_W0 g p
  have wf := sc_Wf hk hp1
  rw [hpk] at wf
  have wd := fun hw => (sc_dl hk hp1 hw).1
  rw [hpk] at wd
  have hA : hp 86 kz = sc_f g kz - mi_D g p u ∧ hp 68 (7 * kz + 5) = 0 := by
    rcases ho.1 with c | c
    · exact c
    · omega
  have hD : mi_D g p u = sc_W g p := by
    by_cases c : 0 < sc_W g p
    · have := wd c
      unfold mi_D; omega
    · unfold mi_D; omega
  obtain ⟨i86, i68, i39, i60, i83, i84, i85⟩ := sp_new_is hp kz
  refine ⟨fun j c1 c2 c3 => ?_, fun q hq hqa => ?_, ?_, ?_, mz, ?_, ?_, ?_, fun j hj => ?_⟩
  · have : j ≠ kz := fun e => by rw [e, hat] at c3; cases c3
    rw [i86, if_neg this]
    exact a1 j c1 c2 c3
  · have hq2 := a2 q hq hqa
    unfold mi_one at hq2 ⊢
    rw [i86, i68, i68, i60 38 (by decide)]
    by_cases e : q = p
    · subst e
      rw [hpk] at hq2 ⊢
      rw [if_pos rfl, if_pos rfl, if_neg (by omega)]
      exact ⟨Or.inr ⟨rfl, he, by omega⟩, hq2.2⟩
    · have e2 : sc_o g q ≠ kz := fun e3 => e (sc_inj hk hq hp1 (by rw [e3, hpk]))
      rw [if_neg e2, if_neg (by omega), if_neg (by omega)]
      exact hq2
  · rw [i60 38 (by decide)]; exact a3
  · rw [i39, qb_sum_at (f := fun kz => if sc_a g kz = true then hp 68 (7 * kz + 5) else 0) (kz := kz) h0 h1 (fun j c1 c2 c3 => by rw [i68, if_neg (show ¬ (7 * j + 5 = 7 * kz + 5) by omega)]), ← a4]
    simp only [hat, if_true]
    rw [i68, if_pos rfl, hA.2]; omega
  · rw [i60 33 (by decide)]; exact b1
  · rw [i85, i60 38 (by decide)]; exact b2
  · have e5 : qb_sum (mi_cnt g (sp_new hp kz)) n = qb_sum (mi_cnt g hp) n := qb_sum_cg n (fun j hj => by
      unfold mi_cnt
      rw [i68, if_neg (show ¬ (7 * (j : Int) + 6 = 7 * kz + 5) by omega)])
    rw [e5]; exact b3
  · have := b4 j hj
    unfold mi_pc at this ⊢
    rw [i83, i84, i85]; exact this
/-- the heap behind one piece of work -/
def mi_new (hp : qb_H) (kz H n1 : Int) : qb_H := qb_st (qb_st (qb_st (qb_st (qb_st (qb_st (qb_st hp 83 (hp 60 33) kz) 84 (hp 60 33) H) 85 (hp 60 33) n1) 60 33 (hp 60 33 + 1)) 86 kz (hp 86 kz - n1)) 60 38 (hp 60 38 + n1)) 68 (7 * kz + 6) H
theorem mi_new_is (hp : qb_H) (kz H n1 : Int) :
    (∀ j, mi_new hp kz H n1 83 j = if j = hp 60 33 then kz else hp 83 j) ∧ (∀ j, mi_new hp kz H n1 84 j = if j = hp 60 33 then H else hp 84 j) ∧ (∀ j, mi_new hp kz H n1 85 j = if j = hp 60 33 then n1 else hp 85 j) ∧
    mi_new hp kz H n1 60 33 = hp 60 33 + 1 ∧ mi_new hp kz H n1 60 38 = hp 60 38 + n1 ∧ mi_new hp kz H n1 60 39 = hp 60 39 ∧
    (∀ j, mi_new hp kz H n1 86 j = if j = kz then hp 86 kz - n1 else hp 86 j) ∧ (∀ j, mi_new hp kz H n1 68 j = if j = 7 * kz + 6 then H else hp 68 j) := by
  refine ⟨?_, ?_, ?_, ?_, ?_, ?_, ?_, ?_⟩
  all_goals simp [mi_new, qb_st]
theorem mi_new_fr (hp : qb_H) (kz H n1 : Int) : mi_fr hp (mi_new hp kz H n1) := by
  refine ⟨fun c h1 h2 h3 h4 h5 h6 => ?_, fun j h1 h2 h3 => ?_, fun z i h1 h2 => ?_⟩
  · unfold mi_new
    rw [qb_st_ne h2, qb_st_ne h1, qb_st_ne h6, qb_st_ne h1, qb_st_ne h5, qb_st_ne h4, qb_st_ne h3]
  · simp [mi_new, qb_st, h1, h2]
  · rw [(mi_new_is hp kz H n1).2.2.2.2.2.2.2, if_neg (by omega)]
theorem mi_work {g : sc_G} {n : Nat} (hk : sc_ok g n) {hp : qb_H} {u H n1 : Int} {p : Nat} (h : mi g n hp u) (hH0 : 0 ≤ H) (hp1 : p < n) (hat : sc_a g (sc_o g p) = true) (hl : 0 < hp 86 (sc_o g p)) (hu1 : H * sc_p g ≤ u) (hu2 : u < H * sc_p g + sc_p g) (hh : sc_h g (sc_o g p) ≤ H)
    (hne : H < sc_h g (sc_o g p) + sc_s g) (hfirst : ∀ q : Nat, q < p → sc_a g (sc_o g q) = true → hp 86 (sc_o g q) ≤ 0) (hcont : 0 < mi_D g p u → u ≤ H * sc_p g) (hn1 : n1 = min (hp 86 (sc_o g p)) (H * sc_p g + sc_p g - u)) :
    mi g n (mi_new hp (sc_o g p) H n1) (u + n1) ∧ (0 < n1 ∧ n1 ≤ hp 86 (sc_o g p) ∧ u + n1 ≤ H * sc_p g + sc_p g) ∧ (∃ mz : Nat, hp 60 33 = mz ∧ (mz : Int) ≤ qb_sum (mi_cnt g hp) n) ∧ (∀ q : Nat, q < n → p < q → sc_a g (sc_o g q) = true → mi_D g q (u + n1) = 0) := by
  obtain ⟨a1, a2, a3, a4, mz, b1, b2, b3, b4⟩ := h
  have hpc := hk.2.2.2.2.1
  have ho := a2 p hp1 hat
  have w0 := sc_W0 g p
  have wf := sc_Wf hk hp1
  have hH2 := sc_mle hk (x := 0) (y := H) hH0
  have hko := hk.1 p hp1
  have hkf := hk.2.1 (sc_o g p) hko.1 hko.2
  -- all ahead are done
  have hdone : ∀ q : Nat, q < p → sc_a g (sc_o g q) = true → mi_D g q u = sc_W g q ∧ (0 < sc_W g q → sc_S g q + sc_W g q ≤ u) := by
    intro q hq hqa
    have hq2 := a2 q (by omega) hqa
    have hl2 := hfirst q hq hqa
    have x0 := sc_W0 g q
    have x1 := sc_Wf hk (p := q) (by omega)
    have x2 := fun hw => (sc_dl hk (p := q) (by omega) hw).1
    unfold mi_one at hq2
    rcases hq2.1 with ⟨c1, c2⟩ | ⟨c1, c2, c3⟩
    · unfold mi_D at c1 ⊢; omega
    · by_cases c : 0 < sc_W g q
      · have := x2 c
        unfold mi_D; omega
      · unfold mi_D; omega
  have hcurq : ∀ q : Nat, q < p → sc_a g (sc_o g q) = true → 0 < sc_W g q → sc_T g q + sc_W g q ≤ hp 60 38 := by
    intro q hq hqa hw
    have hq2 := a2 q (by omega) hqa
    unfold mi_one at hq2
    have := (hdone q hq hqa).1
    omega
  have hSu : sc_S g p ≤ u := by
    have t1 := sc_mle hk hh
    have : sc_R g p ≤ u := by
      rcases sc_last hk p (by omega) with ⟨c1, -⟩ | ⟨q, c1, c2, c3, c4, c5, -⟩
      · omega
      · have := (hdone q c1 c2).2 c3
        omega
    unfold sc_S; omega
  have hTc : sc_T g p ≤ hp 60 38 := by
    rcases sc_last hk p (by omega) with ⟨-, c1, -⟩ | ⟨q, c1, c2, c3, c4, c5, -⟩
    · omega
    · have := hcurq q c1 c2 c3
      omega
  have hdl : H * sc_p g + sc_p g ≤ (sc_h g (sc_o g p) + sc_s g) * sc_p g := sc_mlt hk hne
  have hWq := sc_W_eq g p
  unfold mi_one at ho
  have hA : hp 86 (sc_o g p) = sc_f g (sc_o g p) - mi_D g p u ∧ hp 68 (7 * sc_o g p + 5) = 0 := by
    rcases ho.1 with c | c
    · exact c
    · omega
  have hDu : mi_D g p u = u - sc_S g p ∧ u - sc_S g p < sc_W g p := by
    have := hA.1
    unfold mi_D at this ⊢; omega
  have hcur : hp 60 38 = sc_T g p + (u - sc_S g p) := by
    have := ho.2.2
    omega
  have hn0 : 0 < n1 ∧ n1 ≤ hp 86 (sc_o g p) ∧ u + n1 ≤ H * sc_p g + sc_p g := by omega
  have hnW : u + n1 - sc_S g p ≤ sc_W g p := by omega
  have hDn : mi_D g p (u + n1) = u + n1 - sc_S g p := by unfold mi_D; omega
  obtain ⟨i83, i84, i85, i33, i38, i39, i86, i68⟩ := mi_new_is hp (sc_o g p) H n1
  have hTn := (sc_next g (p := p) (q := n) hp1 hat).2.2
  have hlater : ∀ q : Nat, q < n → p < q → sc_a g (sc_o g q) = true → mi_D g q (u + n1) = 0 ∧ mi_D g q u = 0 := by
    intro q hq hpq hqa
    have := sc_next g (p := p) (q := q) hpq hat
    have x0 := sc_W0 g q
    unfold mi_D; omega
  refine ⟨⟨fun j c1 c2 c3 => ?_, fun q hq hqa => ?_, ?_, ?_, mz + 1, ?_, ?_, ?_, fun j hj => ?_⟩, hn0, ⟨mz, b1, b3⟩, fun q c1 c2 c3 => (hlater q c1 c2 c3).1⟩
  · rw [i86]
    have : j ≠ sc_o g p := fun e => by rw [e, hat] at c3; cases c3
    rw [if_neg this]
    exact a1 j c1 c2 c3
  · have hq2 := a2 q hq hqa
    unfold mi_one at hq2 ⊢
    rw [i86, i68, i68, i38]
    by_cases e : q = p
    · subst e
      rw [if_pos rfl, if_neg (by omega), if_pos rfl, hDn]
      refine ⟨Or.inl ⟨by omega, hA.2⟩, ?_, by omega⟩
      rw [if_neg (by omega)]
      exact (qb_dv (by omega) (by omega) (by omega)).symm
    · have e2 : sc_o g q ≠ sc_o g p := fun e3 => e (sc_inj hk hq hp1 e3)
      rw [if_neg e2, if_neg (by omega), if_neg (by omega)]
      rcases Nat.lt_or_gt_of_ne e with c | c
      · have d1 := hdone q c hqa
        have d2 : mi_D g q (u + n1) = mi_D g q u := by
          have x0 := sc_W0 g q
          have := d1.1
          unfold mi_D at this ⊢; omega
        rw [d2]
        refine ⟨?_, hq2.2.1, ?_⟩
        · rcases hq2.1 with z | ⟨z1, z2, z3⟩
          · exact Or.inl z
          · exact Or.inr ⟨z1, by omega, z3⟩
        · have x0 := sc_W0 g q
          have := hq2.2.2
          have := d1.1
          omega
      · obtain ⟨d1, d2⟩ := hlater q hq c hqa
        have x3 := (sc_next g (p := p) (q := q) c hat).2.2
        rw [d1]
        rw [d2] at hq2
        refine ⟨?_, hq2.2.1, by omega⟩
        rcases hq2.1 with z | ⟨z1, z2, z3⟩
        · exact Or.inl z
        · exact Or.inr ⟨z1, by omega, z3⟩
  · rw [i38]; omega
  · rw [i39, a4]
    refine qb_sum_cg n (fun j hj => ?_)
    rw [i68, if_neg (show ¬ (7 * (j : Int) + 5 = 7 * sc_o g p + 6) by omega)]
  · rw [i33, b1]; rfl
  · simp only [qb_sum]
    rw [i38, i85, b1, if_pos rfl]
    have := qb_sum_cg (f := mi_new hp (sc_o g p) H n1 85) (g := hp 85) mz (fun j hj => by rw [i85, b1, if_neg (by omega)])
    rw [this, b2]
  · have e1 := qb_sum_at (f := mi_cnt g hp) (f' := mi_cnt g (mi_new hp (sc_o g p) H n1)) (n := n) (kz := sc_o g p) hko.1 hko.2 (fun j c1 c2 c3 => by
      unfold mi_cnt
      rw [i68, if_neg (show ¬ (7 * j + 6 = 7 * sc_o g p + 6) by omega)])
    rw [e1]
    have e2 : mi_cnt g (mi_new hp (sc_o g p) H n1) (sc_o g p) = H - sc_h g (sc_o g p) + 1 := by
      unfold mi_cnt
      rw [i68, if_pos rfl, if_pos hat, if_neg (by omega)]
    have e3 : mi_cnt g hp (sc_o g p) ≤ H - sc_h g (sc_o g p) := by
      unfold mi_cnt
      rw [if_pos hat, ho.2.1]
      by_cases c : mi_D g p u = 0
      · rw [if_pos c, if_pos (by decide)]; omega
      · rw [if_neg c]
        have hc := hcont (by omega)
        have : (sc_S g p + mi_D g p u - 1) / sc_p g < H := by
          rw [Int.ediv_lt_iff_lt_mul (by omega)]; omega
        split <;> omega
    rw [e2]
    have : ((mz + 1 : Nat) : Int) = (mz : Int) + 1 := by omega
    omega
  · have hs : ∀ j : Nat, j ≤ mz → qb_sum (mi_new hp (sc_o g p) H n1 85) j = qb_sum (hp 85) j := fun j hj => qb_sum_cg j (fun i hi => by rw [i85, b1, if_neg (by omega)])
    unfold mi_pc
    rw [hs j (by omega), i83, i84, i85, b1]
    by_cases e : j = mz
    · subst e
      rw [if_pos rfl, if_pos rfl, if_pos rfl, b2]
      exact ⟨p, hp1, hat, rfl, by omega, by omega, by omega, by omega, by omega⟩
    · rw [if_neg (by omega), if_neg (by omega), if_neg (by omega)]
      exact b4 j (by omega)
