/-! EXPLAINED, RIVALS -/
def fj (hp hq : qb_H) : Prop := (∀ c : Nat, c ≠ 32 → c ≠ 34 → c ≠ 35 → hq c = hp c) ∧ ∀ j : Int, j ≠ 5 → hq 32 j = hp 32 j
theorem fj.rf {hp : qb_H} : fj hp hp := ⟨fun _ _ _ _ => rfl, fun _ _ => rfl⟩
theorem fj.tr {x y z : qb_H} (h : fj x y) (h' : fj y z) : fj x z := ⟨fun c c1 c2 c3 => (h'.1 c c1 c2 c3).trans (h.1 c c1 c2 c3), fun j hj => (h'.2 j hj).trans (h.2 j hj)⟩
theorem fj_kS {hp hq : qb_H} (h : fj hp hq) : kS hp hq := by
  refine ⟨fun c c1 c2 c3 c4 => h.1 c c4 (fun e => c1 (by rw [e]; decide)) (fun e => c1 (by rw [e]; decide)), fun j _ => by rw [h.1 60 (by decide) (by decide) (by decide)], fun k i _ _ => by rw [h.1 68 (by decide) (by decide) (by decide)], fun j hj => h.2 j hj, fun j _ => by rw [h.1 59 (by decide) (by decide) (by decide)]⟩
theorem jx_go {hp hq : qb_H} (h70 : hq 70 = hp 70) (a b c : Int) : ∀ n : Nat, jx hq a b c n = jx hp a b c n := by
  intro n
  induction n with
  | zero => rfl
  | succ n ih =>
    have hv : ∀ kz c : Int, v_m_hasCause kz c hq = v_m_hasCause kz c hp := fun kz c => by unfold v_m_hasCause; rw [h70]
    have hr : ∀ kz : Int, jr hq kz = jr hp kz := fun kz => by unfold jr; rw [h70]
    simp only [jx]
    rw [ih]
    by_cases e : jx hp a b c n = 0
    · rw [if_pos e, if_pos e]
    · rw [if_neg e, if_neg e]
      have ee : jxe hq a b c n ↔ jxe hp a b c n := by
        unfold jxe
        rw [hv, hv, hv, hr]
      by_cases d : jxe hp a b c n
      · rw [if_pos d, if_pos (ee.2 d)]
      · rw [if_neg d, if_neg (fun z => d (ee.1 z))]
theorem sA_fj {hp hq : qb_H} (h : fj hp hq) (s x : Int) : sA hq s x ↔ sA hp s x := by
  have e := jm_go (hp := hp) (hq := hq) (h.1 70 (by decide) (by decide) (by decide)) (by rw [h.1 60 (by decide) (by decide) (by decide)])
  unfold sA
  rw [e, e, e]
theorem sP_fj {hp hq : qb_H} (h : fj hp hq) (s x : Int) : sP hq s x ↔ sP hp s x := by
  have e := jx_go (hp := hp) (hq := hq) (h.1 70 (by decide) (by decide) (by decide))
  unfold sP sX
  rw [sA_fj h, e, h.1 60 (by decide) (by decide) (by decide)]
theorem sN_fj {hp hq : qb_H} (h : fj hp hq) (s : Int) (n : Nat) : sN hq s n = sN hp s n := by
  induction n with
  | zero => rfl
  | succ n ih =>
    by_cases c : sP hp s n
    · rw [sN_yes c, sN_yes ((sP_fj h s n).2 c), ih]
    · rw [sN_no c, sN_no (fun z => c ((sP_fj h s n).1 z)), ih]
theorem fw_fj {hp hq : qb_H} (h : fj hp hq) : fw hq = fw hp := by
  unfold fw
  rw [sN_fj h, sN_fj h, sN_fj h, sN_fj h]
theorem iJ_fj {hp hq : qb_H} (hJ : qb_iJ hp) (h : fj hp hq) : qb_iJ hq := iJ_kS hJ (fj_kS h)
theorem ABc_go {hp hq : qb_H} {A : Int} {ab : Int → Int} {n : Nat} (h : ABc hp A ab n) (hf : fj hp hq) : ABc hq A ab n := by
  have e := jm_go (hp := hp) (hq := hq) (hf.1 70 (by decide) (by decide) (by decide)) (by rw [hf.1 60 (by decide) (by decide) (by decide)])
  obtain ⟨h1, h2, h3, h4⟩ := h
  exact ⟨h1, fun j j0 j1 => by rw [e]; exact h2 j j0 j1, h3, fun c c0 c1 hc => h4 c c0 c1 (by rw [← e]; exact hc)⟩
/-- the code of a cursor: its parts, and whether it explains -/
theorem cu_sA {hp : qb_H} {s A : Int} {ab ch : Int → Int} {x : Nat} {R : Int} (hAB : ABc hp A ab 30) (h : cu s A ab ch x R) : sA hp s x ∧ x < 27000 ∧ (0 ≤ s ∧ s ≤ 3) ∧ (∀ j : Int, 0 ≤ j → j < s → (0 ≤ ch j ∧ ch j < A)) ∧ (∀ j : Int, 0 ≤ j → j < s → ssel s j x = ab (ch j)) := by
  rcases h with ⟨c0, c1, c2⟩ | ⟨c0, c1, c2, c3⟩ | ⟨c0, c1, c2, c3⟩ | ⟨c0, c1, c2, c3⟩
  · subst c0; subst c1
    refine ⟨⟨by decide, fun z => absurd (by decide) z, fun z => absurd (by decide) z, fun z => absurd (by decide) z⟩, by omega, by decide, fun j j0 j1 => by omega, fun j j0 j1 => by omega⟩
  · subst c0
    have b0 := hAB.2.1 (ch 0) c1.1 c1.2
    have d0 : (x : Int) / 900 = ab (ch 0) := by omega
    have d1 : (x : Int) / 30 % 30 = 0 := by omega
    have d2 : (x : Int) % 30 = 0 := by omega
    refine ⟨⟨?_, fun _ => by rw [d0]; exact b0.2, fun z => absurd (by decide) z, fun z => absurd (by decide) z⟩, by omega, by decide, fun j j0 j1 => ?_, fun j j0 j1 => ?_⟩
    · unfold sv
      rw [if_neg (by decide), if_pos rfl, if_pos d1, if_pos d2]; decide
    · have : j = 0 := by omega
      rw [this]; exact c1
    · have : j = 0 := by omega
      rw [this]
      unfold ssel
      rw [v_m_in_1 (by omega), if_neg (by decide), if_pos rfl]
      exact d0
  · subst c0
    have b0 := hAB.2.1 (ch 0) (by omega) (by omega)
    have b1 := hAB.2.1 (ch 1) (by omega) (by omega)
    have b2 := hAB.2.2.1 (ch 0) (ch 1) (by omega) (by omega) (by omega)
    have d0 : (x : Int) / 900 = ab (ch 0) := by omega
    have d1 : (x : Int) / 30 % 30 = ab (ch 1) := by omega
    have d2 : (x : Int) % 30 = 0 := by omega
    refine ⟨⟨?_, fun _ => by rw [d0]; exact b0.2, fun _ => by rw [d1]; exact b1.2, fun z => absurd (by decide) z⟩, by omega, by decide, fun j j0 j1 => ?_, fun j j0 j1 => ?_⟩
    · unfold sv
      rw [if_neg (by decide), if_neg (by decide), if_pos rfl, if_neg (by omega), if_pos d2]; decide
    · have : j = 0 ∨ j = 1 := by omega
      rcases this with e | e <;> rw [e] <;> omega
    · have : j = 0 ∨ j = 1 := by omega
      unfold ssel
      rw [v_m_in_1 (by omega), if_neg (by decide)]
      rcases this with e | e
      · rw [e, if_pos rfl]; exact d0
      · rw [e, if_neg (by decide), if_pos rfl]; exact d1
  · subst c0
    have b0 := hAB.2.1 (ch 0) (by omega) (by omega)
    have b1 := hAB.2.1 (ch 1) (by omega) (by omega)
    have b2 := hAB.2.1 (ch 2) (by omega) (by omega)
    have b3 := hAB.2.2.1 (ch 0) (ch 1) (by omega) (by omega) (by omega)
    have b4 := hAB.2.2.1 (ch 1) (ch 2) (by omega) (by omega) (by omega)
    have d0 : (x : Int) / 900 = ab (ch 0) := by omega
    have d1 : (x : Int) / 30 % 30 = ab (ch 1) := by omega
    have d2 : (x : Int) % 30 = ab (ch 2) := by omega
    refine ⟨⟨?_, fun _ => by rw [d0]; exact b0.2, fun _ => by rw [d1]; exact b1.2, fun _ => by rw [d2]; exact b2.2⟩, by omega, by decide, fun j j0 j1 => ?_, fun j j0 j1 => ?_⟩
    · unfold sv
      rw [if_neg (by decide), if_neg (by decide), if_neg (by decide), if_neg (by omega), if_neg (by omega)]; decide
    · have : j = 0 ∨ j = 1 ∨ j = 2 := by omega
      rcases this with e | e | e <;> rw [e] <;> omega
    · have : j = 0 ∨ j = 1 ∨ j = 2 := by omega
      unfold ssel
      rw [v_m_in_1 (by omega), if_neg (by decide)]
      rcases this with e | e | e
      · rw [e, if_pos rfl]; exact d0
      · rw [e, if_neg (by decide), if_pos rfl]; exact d1
      · rw [e, if_neg (by decide), if_neg (by decide)]; exact d2
theorem cu_sX {hp : qb_H} (hJ : qb_iJ hp) {s A : Int} {ab ch : Int → Int} {x : Nat} {R : Int} (hAB : ABc hp A ab 30) (h : cu s A ab ch x R) : ¬ sX hp s x = 0 ↔ ∀ kz : Nat, (kz : Int) < hp 60 13 → jr hp kz = 1 → ∃ j : Int, 0 ≤ j ∧ j < s ∧ jh hp kz (ab (ch j)) := by
  have hj := hJ.2.2.2.2
  have h13 := hJ.2.1
  unfold sX
  rw [jx_1]
  have h01 : ∀ kz : Nat, (kz : Int) < hp 60 13 → ¬ jr hp kz = 0 → jr hp kz = 1 := fun kz hk hz => (hj kz (by omega) hk).resolve_left hz
  rcases h with ⟨c0, c1, c2⟩ | ⟨c0, c1, c2, c3⟩ | ⟨c0, c1, c2, c3⟩ | ⟨c0, c1, c2, c3⟩
  · subst c0
    rw [if_pos (by decide), if_pos (by decide), if_pos (by decide)]
    constructor
    · intro H kz hk hr
      rcases H kz (by omega) with e | e | e | e
      · rw [e] at hr; exact absurd hr (by decide)
      · exact absurd (by decide) e.1
      · exact absurd (by decide) e.1
      · exact absurd (by decide) e.1
    · intro H kz hk
      by_cases e : jr hp kz = 0
      · exact Or.inl e
      · obtain ⟨j, j0, j1, -⟩ := H kz (by omega) (h01 kz (by omega) e)
        omega
  · subst c0
    have b0 := hAB.2.1 (ch 0) c1.1 c1.2
    have d0 : (x : Int) / 900 = ab (ch 0) := by omega
    rw [if_neg (by decide), if_pos (by decide), if_pos (by decide), d0]
    constructor
    · intro H kz hk hr
      rcases H kz (by omega) with e | e | e | e
      · rw [e] at hr; exact absurd hr (by decide)
      · exact ⟨0, by decide, by decide, (has_v _ _ _).1 e.2⟩
      · exact absurd (by decide) e.1
      · exact absurd (by decide) e.1
    · intro H kz hk
      by_cases e : jr hp kz = 0
      · exact Or.inl e
      · obtain ⟨j, j0, j1, j2⟩ := H kz (by omega) (h01 kz (by omega) e)
        have : j = 0 := by omega
        rw [this] at j2
        exact Or.inr (Or.inl ⟨by omega, (has_v _ _ _).2 j2⟩)
  · subst c0
    have b0 := hAB.2.1 (ch 0) (by omega) (by omega)
    have b1 := hAB.2.1 (ch 1) (by omega) (by omega)
    have d0 : (x : Int) / 900 = ab (ch 0) := by omega
    have d1 : (x : Int) / 30 % 30 = ab (ch 1) := by omega
    rw [if_neg (by decide), if_neg (by decide), if_pos (by decide), d0, d1]
    constructor
    · intro H kz hk hr
      rcases H kz (by omega) with e | e | e | e
      · rw [e] at hr; exact absurd hr (by decide)
      · exact ⟨0, by decide, by decide, (has_v _ _ _).1 e.2⟩
      · exact ⟨1, by decide, by decide, (has_v _ _ _).1 e.2⟩
      · exact absurd (by decide) e.1
    · intro H kz hk
      by_cases e : jr hp kz = 0
      · exact Or.inl e
      · obtain ⟨j, j0, j1, j2⟩ := H kz (by omega) (h01 kz (by omega) e)
        have : j = 0 ∨ j = 1 := by omega
        rcases this with e | e
        · rw [e] at j2
          exact Or.inr (Or.inl ⟨by omega, (has_v _ _ _).2 j2⟩)
        · rw [e] at j2
          exact Or.inr (Or.inr (Or.inl ⟨by omega, (has_v _ _ _).2 j2⟩))
  · subst c0
    have b0 := hAB.2.1 (ch 0) (by omega) (by omega)
    have b1 := hAB.2.1 (ch 1) (by omega) (by omega)
    have b2 := hAB.2.1 (ch 2) (by omega) (by omega)
    have d0 : (x : Int) / 900 = ab (ch 0) := by omega
    have d1 : (x : Int) / 30 % 30 = ab (ch 1) := by omega
    have d2 : (x : Int) % 30 = ab (ch 2) := by omega
    rw [if_neg (by decide), if_neg (by decide), if_neg (by decide), d0, d1, d2]
    constructor
    · intro H kz hk hr
      rcases H kz (by omega) with e | e | e | e
      · rw [e] at hr; exact absurd hr (by decide)
      · exact ⟨0, by decide, by decide, (has_v _ _ _).1 e.2⟩
      · exact ⟨1, by decide, by decide, (has_v _ _ _).1 e.2⟩
      · exact ⟨2, by decide, by decide, (has_v _ _ _).1 e.2⟩
    · intro H kz hk
      by_cases e : jr hp kz = 0
      · exact Or.inl e
      · obtain ⟨j, j0, j1, j2⟩ := H kz (by omega) (h01 kz (by omega) e)
        have : j = 0 ∨ j = 1 ∨ j = 2 := by omega
        rcases this with e | e | e
        · rw [e] at j2
          exact Or.inr (Or.inl ⟨by omega, (has_v _ _ _).2 j2⟩)
        · rw [e] at j2
          exact Or.inr (Or.inr (Or.inl ⟨by omega, (has_v _ _ _).2 j2⟩))
        · rw [e] at j2
          exact Or.inr (Or.inr (Or.inr ⟨by omega, (has_v _ _ _).2 j2⟩))
/-- the class's loop over the sets -/
theorem ju_sets {hp : qb_H} (hJ : qb_iJ hp) {s wanted A : Int} {ab : Int → Int} (hAB : ABc hp A ab 30) {K : Int → qb_H → Prop}
    (hK1 : ∀ hq : qb_H, fj hp hq → (∀ x : Nat, x < 27000 → sP hp s x → sN hp s x ≠ wanted) → K (sN hp s 27000) hq)
    (hK2 : ∀ (hq : qb_H) (x : Nat), fj hp hq → x < 27000 → sP hp s x → sN hp s x = wanted → (∀ j : Int, 0 ≤ j → j < s → (0 ≤ hq 35 j ∧ hq 35 j < 30) ∧ hq 34 (hq 35 j) = ssel s j x) → K (wanted + 1) hq) :
    ∀ (d : Nat) (step : Int) (x : Nat) (R : Int) (hq : qb_H), 0 ≤ step → step + d = 5000 → fj hp hq → hq 34 = ab → hq 32 5 = A → cu s A ab (hq 35) x R → step ≤ R → (∀ y : Nat, y < x → sP hp s y → sN hp s y ≠ wanted) → r_ju_explaining_48 s wanted 1 (sN hp s x) step hq K := by
  intro d
  induction d with
  | zero =>
    intro step x R hq h0 h1 hf e34 e32 hc hR hw
    have := cu_R hAB.1.2 hc
    omega
  | succ d ih =>
    intro step x R hq h0 h1 hf e34 e32 hc hR hw
    have hcR := cu_R hAB.1.2 hc
    obtain ⟨s1, s2, s3, s4, s5⟩ := cu_sA hAB hc
    have hJq := iJ_fj hJ hf
    have hABq : ABc hq A (hq 34) 30 := by rw [e34]; exact ABc_go hAB hf
    have hNx := sN_in (hp := hp) (many := s) x
    have hA30 := hAB.1
    have cont : ∀ (met : Int), (sP hp s x → met = sN hp s x + 1) → (¬ sP hp s x → met = sN hp s x) → (sP hp s x → sN hp s x ≠ wanted) →
        c_ju_advance s hq (fun v hr => (qb_in (step + 1)) ∧ r_ju_explaining_48 s wanted v met (step + 1) hr K) := by
      intro met m1 m2 m3
      have hw2 : ∀ y : Nat, y < x + 1 → sP hp s y → sN hp s y ≠ wanted := fun y hy hP => by
        by_cases e : y = x
        · rw [e] at hP ⊢; exact m3 hP
        · exact hw y (by omega) hP
      have hmet : met = sN hp s (x + 1) := by
        by_cases c : sP hp s x
        · rw [sN_yes c]; exact m1 c
        · rw [sN_no c]; exact m2 c
      refine s_ju_adv (hp := hp) (A := A) (by rw [e34]; exact hAB) e32 (by rw [e34]; exact hc) (fun hno => ?_) (fun hr y R' f1 f2 f3 f4 f5 f6 => ?_)
      · have e : met = sN hp s 27000 := by
          rw [hmet]
          exact (sN_skip (by omega) (fun z z0 z1 hz => hno z (by omega) z1 hz.1)).symm
        refine ⟨by unfold qb_in; omega, b_ju_explaining_48 ⟨fun _ => ?_, fun c => absurd rfl c⟩⟩
        rw [e]
        refine hK1 hq hf (fun y hy hP => ?_)
        by_cases c : y < x + 1
        · exact hw2 y c hP
        · exact absurd hP.1 (hno y (by omega) hy)
      · have e : met = sN hp s y := by
          rw [hmet]
          exact (sN_skip (by omega) (fun z z0 z1 hz => f6 z (by omega) z1 hz.1)).symm
        rw [e]
        refine ⟨by unfold qb_in; omega, ih (step + 1) y R' hr (by omega) (by omega) (hf.tr ⟨fun c c1 c2 c3 => f1 c c3, fun j _ => by rw [f1 32 (by decide)]⟩) (by rw [f1 34 (by decide)]; exact e34) (by rw [f1 32 (by decide)]; exact e32) (by rw [← e34]; exact f2) (by omega) (fun z hz hP => ?_)⟩
        by_cases c : z < x + 1
        · exact hw2 z c hP
        · exact absurd hP.1 (f6 z (by omega) hz)
    refine b_ju_explaining_48 ⟨fun c => absurd c (by decide), fun _ => ⟨fun c => absurd c (by omega), fun _ => s_ju_explainsAll hJq s3 hABq s4 (fun v hv => ?_)⟩⟩
    have hsx := cu_sX hJq hABq (by rw [e34]; exact hc)
    have hsx2 : ¬ v = 0 ↔ sP hp s x := by
      rw [hv, ← hsx]
      have := sP_fj hf s x
      unfold sP at this
      constructor
      · intro h; exact this.1 ⟨(sA_fj hf s x).2 s1, h⟩
      · intro h; exact (this.2 h).2
    refine ⟨fun e => ?_, fun e => ?_⟩
    · have hno : ¬ sP hp s x := fun z => (hsx2.2 z) e
      exact cont _ (fun z => absurd z hno) (fun _ => rfl) (fun z => absurd z hno)
    · have hP := hsx2.1 e
      have e1 : sN hp s x + 1 - 1 = sN hp s x := by omega
      rw [e1]
      refine ⟨by unfold qb_in; omega, by unfold qb_in; omega, fun w => ?_, fun w => cont _ (fun _ => rfl) (fun z => absurd hP z) (fun _ => w)⟩
      rw [w]
      refine hK2 hq x hf s2 hP w (fun j j0 j1 => ?_)
      have := s4 j j0 j1
      exact ⟨by omega, by rw [s5 j j0 j1, e34]⟩
theorem s_ju_explaining {hp : qb_H} (hJ : qb_iJ hp) {s wanted : Int} (hs : 0 ≤ s ∧ s ≤ 3) {K : Int → qb_H → Prop}
    (hK1 : ∀ hq : qb_H, fj hp hq → (∀ x : Nat, x < 27000 → sP hp s x → sN hp s x ≠ wanted) → K (sN hp s 27000) hq)
    (hK2 : ∀ (hq : qb_H) (x : Nat), fj hp hq → x < 27000 → sP hp s x → sN hp s x = wanted → (∀ j : Int, 0 ≤ j → j < s → (0 ≤ hq 35 j ∧ hq 35 j < 30) ∧ hq 34 (hq 35 j) = ssel s j x) → K (wanted + 1) hq) : c_ju_explaining s wanted hp K := by
  refine b_ju_explaining (s_ju_listAble hJ (fun hl l1 l2 l3 y ey => ?_))
  have hfl : fj hp hl := ⟨fun c c1 c2 c3 => l1 c c1 c2, l2⟩
  have key : ∀ (d : Nat) (t : Int) (hq : qb_H), 0 ≤ t → t + d = s → (∀ c : Nat, c ≠ 35 → hq c = hl c) → (∀ j : Int, 0 ≤ j → j < t → hq 35 j = j) → (∀ hr : qb_H, (∀ c : Nat, c ≠ 35 → hr c = hl c) → (∀ j : Int, 0 ≤ j → j < s → hr 35 j = j) → r_ju_explaining_48 s wanted y 0 0 hr K) → r_ju_explaining_21 s wanted y t hq K := by
    intro d
    induction d with
    | zero =>
      intro t hq t0 t1 q1 q2 hk
      have e : t = s := by omega
      subst e
      exact b_ju_explaining_21 ⟨fun _ => hk hq q1 q2, fun c => absurd (Int.le_refl _) c⟩
    | succ d ih =>
      intro t hq t0 t1 q1 q2 hk
      refine b_ju_explaining_21 ⟨fun c => absurd c (by omega), fun _ => ⟨by omega, ih (t + 1) _ (by omega) (by omega) (fun c hc => by rw [qb_st_ne hc]; exact q1 c hc) (fun j j0 j1 => ?_) hk⟩⟩
      by_cases e : j = t
      · rw [e]; simp [qb_st]
      · have := q2 j j0 (by omega)
        simp [qb_st, e, this]
  refine key s.toNat 0 hl (Int.le_refl _) (by omega) (fun _ _ => rfl) (fun j j0 j1 => by omega) (fun hr r1 r2 => ?_)
  have hfr : fj hp hr := hfl.tr ⟨fun c c1 c2 c3 => r1 c c3, fun j _ => by rw [r1 32 (by decide)]⟩
  by_cases c : hl 32 5 < s
  · rw [if_pos c] at ey
    have hno : ∀ x : Nat, x < 27000 → ¬ sA hp s x := by
      intro x hx hA
      have h4 : s = 0 ∨ s = 1 ∨ s = 2 ∨ s = 3 := by omega
      have hA0 := l3.1.1
      rcases h4 with e | e | e | e
      · omega
      · subst e
        obtain ⟨i, hi, -⟩ := sA1 l3 hx hA
        omega
      · subst e
        obtain ⟨i, j, hi, -⟩ := sA2 l3 hx hA
        omega
      · subst e
        obtain ⟨i, j, m, hi, -⟩ := sA3 l3 hx hA
        omega
    refine b_ju_explaining_48 ⟨fun _ => ?_, fun z => absurd ey z⟩
    have e : sN hp s 27000 = 0 := sN_skip (x := 0) (by omega) (fun z z0 z1 hz => hno z z1 hz.1)
    rw [← e]
    exact hK1 hr hfr (fun x hx hP => absurd hP.1 (hno x hx))
  · rw [if_neg c] at ey
    subst ey
    have hA30 := l3.1
    have e34 : hr 34 = hl 34 := r1 34 (by decide)
    have e32 : hr 32 5 = hl 32 5 := by rw [r1 32 (by decide)]
    have h4 : s = 0 ∨ s = 1 ∨ s = 2 ∨ s = 3 := by omega
    have hgo : ∀ x : Nat, x < 27000 → cu s (hl 32 5) (hl 34) (hr 35) x 0 → (∀ z : Nat, z < x → ¬ sA hp s z) → r_ju_explaining_48 s wanted 1 0 0 hr K := by
      intro x hx hc hno
      have e : sN hp s x = 0 := sN_skip (x := 0) (by omega) (fun z z0 z1 hz => hno z z1 hz.1)
      have := ju_sets hJ l3 hK1 hK2 5000 0 x 0 hr (by decide) (by decide) hfr e34 e32 hc (by decide) (fun z hz hP => absurd hP.1 (hno z hz))
      rw [e] at this
      exact this
    have hb := fun j j0 j1 => (l3.2.1 j j0 j1).1
    rcases h4 with e | e | e | e
    · subst e
      exact hgo 0 (by decide) (Or.inl ⟨rfl, rfl, rfl⟩) (fun z hz => by omega)
    · subst e
      have r0 := r2 0 (by decide) (by decide)
      have b0 := hb 0 (by omega) (by omega)
      refine hgo (900 * hl 34 0).toNat (by omega) (Or.inr (Or.inl ⟨rfl, ?_⟩)) (fun z hz hA => ?_)
      · rw [r0]; exact ⟨by omega, by omega, rfl⟩
      · obtain ⟨i, hi, ei⟩ := sA1 l3 (by omega) hA
        have := (lex1 l3 hi.1 hi.2 (j := 0) (by omega) (by omega)).1 (by omega)
        omega
    · subst e
      have r0 := r2 0 (by decide) (by decide)
      have r1' := r2 1 (by decide) (by decide)
      have b0 := hb 0 (by omega) (by omega)
      have b1 := hb 1 (by omega) (by omega)
      refine hgo (900 * hl 34 0 + 30 * hl 34 1).toNat (by omega) (Or.inr (Or.inr (Or.inl ⟨rfl, ?_⟩))) (fun z hz hA => ?_)
      · rw [r0, r1']; exact ⟨by omega, by omega, by decide⟩
      · obtain ⟨i, j, hi, ei⟩ := sA2 l3 (by omega) hA
        have := (lex2 l3 (i := i) (j := j) (k := 0) (l := 1) (by omega) (by omega) (by omega) (by omega) (by omega) (by omega) (by omega) (by omega)).1 (by omega)
        omega
    · subst e
      have r0 := r2 0 (by decide) (by decide)
      have r1' := r2 1 (by decide) (by decide)
      have r2' := r2 2 (by decide) (by decide)
      have b0 := hb 0 (by omega) (by omega)
      have b1 := hb 1 (by omega) (by omega)
      have b2 := hb 2 (by omega) (by omega)
      refine hgo (900 * hl 34 0 + 30 * hl 34 1 + hl 34 2).toNat (by omega) (Or.inr (Or.inr (Or.inr ⟨rfl, ?_⟩))) (fun z hz hA => ?_)
      · rw [r0, r1', r2']; exact ⟨by omega, by omega, by decide⟩
      · obtain ⟨i, j, m, hi, ei⟩ := sA3 l3 (by omega) hA
        have := (lex3 l3 (i := i) (j := j) (m := m) (k := 0) (l := 1) (o := 2) (by omega) (by omega) (by omega) (by omega) (by omega) (by omega) (by omega) (by omega) (by omega) (by omega) (by omega) (by omega)).1 (by omega)
        omega
theorem sN_ex {hp : qb_H} {s : Int} (h : ¬ sN hp s 27000 ≤ 0) : ∃ x : Nat, x < 27000 ∧ sP hp s x ∧ sN hp s x = 0 := by
  apply Classical.byContradiction
  intro z
  exact h (sN_none (Int.le_refl 0) 27000 (fun x hx hP e => z ⟨x, hx, hP, e⟩))
theorem s_ju_fewest {hp : qb_H} (hJ : qb_iJ hp) {K : Int → qb_H → Prop} (hK : ∀ hq : qb_H, fj hp hq → K (fw hp) hq) : c_ju_fewest hp K := by
  have one : ∀ (s : Int) (hq : qb_H), fj hp hq → 0 ≤ s → s ≤ 3 → (∀ hr : qb_H, fj hp hr → sN hp s 27000 ≤ 0 → r_ju_fewest_2 (s + 1) hr K) → (∀ hr : qb_H, fj hp hr → ¬ sN hp s 27000 ≤ 0 → K s hr) → r_ju_fewest_2 s hq K := by
    intro s hq hf h0 h1 k1 k2
    refine b_ju_fewest_2 ⟨fun z => absurd z (by omega), fun _ => s_ju_explaining (iJ_fj hJ hf) ⟨h0, h1⟩ (fun hr f1 f2 => ?_) (fun hr x f1 f2 f3 f4 _ => ?_)⟩
    · rw [sN_fj hf]
      refine ⟨fun z => ⟨by unfold qb_in; omega, k1 hr (hf.tr f1) z⟩, fun z => k2 hr (hf.tr f1) z⟩
    · refine ⟨fun z => absurd z (by decide), fun _ => k2 hr (hf.tr f1) (fun z => ?_)⟩
      have g3 := (sP_fj hf s x).1 f3
      have a := sN_yes g3
      have b : sN hp s (x + 1) ≤ sN hp s 27000 := by
        have : ∀ y : Nat, x + 1 ≤ y → sN hp s (x + 1) ≤ sN hp s y := by
          intro y
          induction y with
          | zero => intro h; omega
          | succ y ih =>
            intro h
            by_cases e : x + 1 = y + 1
            · rw [e]; exact Int.le_refl _
            · have i := ih (by omega)
              by_cases c : sP hp s y
              · rw [sN_yes c]; omega
              · rw [sN_no c]; exact i
        exact this 27000 (by omega)
      have := sN_in (hp := hp) (many := s) x
      omega
  refine b_ju_fewest (one 0 hp fj.rf (by decide) (by decide) (fun h1 f1 a => one 1 h1 f1 (by decide) (by decide) (fun h2 f2 b => one 2 h2 f2 (by decide) (by decide) (fun h3 f3 c => one 3 h3 f3 (by decide) (by decide) (fun h4 f4 d => ?_) (fun h4 f4 d => ?_)) (fun h3 f3 c => ?_)) (fun h2 f2 b => ?_)) (fun h1 f1 a => ?_))
  · have e : fw hp = -6 := by
      unfold fw
      rw [if_neg (fun z => z a), if_neg (fun z => z b), if_neg (fun z => z c), if_neg (fun z => z d)]
    refine b_ju_fewest_2 ⟨fun _ => ?_, fun z => absurd (by decide) z⟩
    rw [← e]; exact hK h4 f4
  · have e : fw hp = 3 := by
      unfold fw
      rw [if_neg (fun z => z a), if_neg (fun z => z b), if_neg (fun z => z c), if_pos d]
    rw [← e]; exact hK h4 f4
  · have e : fw hp = 2 := by
      unfold fw
      rw [if_neg (fun z => z a), if_neg (fun z => z b), if_pos c]
    rw [← e]; exact hK h3 f3
  · have e : fw hp = 1 := by
      unfold fw
      rw [if_neg (fun z => z a), if_pos b]
    rw [← e]; exact hK h2 f2
  · have e : fw hp = 0 := by
      unfold fw
      rw [if_pos a]
    rw [← e]; exact hK h1 f1
theorem explained_ok (hp : qb_H) (K : Int → Int → qb_H → Prop) (hJ : qb_iJ hp) (hK : ∀ (v : Int) (hq : qb_H), kS hp hq → K v v hq) : c_q_explained hp (fun v hp1 => c_m_explained hp1 (fun w hp2 => K v w hp2)) := by
  refine b_q_explained (s_ju_fewest hJ (fun hq f => b_m_explained (s_m_fewest (iJ_fj hJ f) ?_)))
  rw [fw_fj f]
  exact hK _ hq (fj_kS f)
theorem rival_ok (i k : Int) (hp : qb_H) (K : Int → Int → qb_H → Prop) (hJ : qb_iJ hp) (hK : ∀ (v : Int) (hq : qb_H), kS hp hq → K v v hq) : c_q_rival i k hp (fun v hp1 => c_m_rival i k hp1 (fun w hp2 => K v w hp2)) := by
  refine b_q_rival (s_ju_fewest hJ (fun hq f => ?_))
  have hJq := iJ_fj hJ f
  have efw : fw hp = fw hq := (fw_fj f).symm
  rw [efw]
  have hin := fw_in hq
  generalize hS : fw hq = S at hin ⊢
  have hmneg : ∀ (V : Int) (hr : qb_H), fj hq hr → S = -6 → V = (if i = -1 then (0 : Int) else -6) → c_m_rival i k hr (fun w hp2 => K V w hp2) := by
    intro V hr fr hs hV
    refine b_m_rival (s_m_fewest (iJ_fj hJq fr) ?_)
    rw [fw_fj fr, hS]
    refine ⟨fun z => absurd z (by omega), fun _ y ey => ?_⟩
    rw [ey, ← hV]
    exact hK V hr (fj_kS (f.tr fr))
  have hmpos : ∀ (V : Int) (hr : qb_H), fj hq hr → 0 ≤ S ∧ S ≤ 3 →
      ((∀ x : Nat, x < 27000 → sP hq S x → sN hq S x ≠ i) → V = (if i = -1 then sN hq S 27000 else -6)) →
      (∀ x : Nat, x < 27000 → sP hq S x → sN hq S x = i → V = ssel S k x) → c_m_rival i k hr (fun w hp2 => K V w hp2) := by
    intro V hr fr hs h1 h2
    refine b_m_rival (s_m_fewest (iJ_fj hJq fr) ?_)
    rw [fw_fj fr, hS]
    refine ⟨fun _ => s_m_setOf (iJ_fj hJq fr) hs (fun hno => ?_) (fun x hx hP e => ?_), fun z => absurd hs.1 z⟩
    · have e := h1 (fun x hx hP e => hno x hx ((sP_fj fr S x).2 hP) (by rw [sN_fj fr]; exact e))
      rw [sN_fj fr, ← e]
      exact hK V hr (fj_kS (f.tr fr))
    · have e2 := h2 x hx ((sP_fj fr S x).1 hP) (by rw [← sN_fj fr]; exact e)
      rw [← e2]
      exact hK V hr (fj_kS (f.tr fr))
  refine ⟨fun e1 => ⟨fun es => hmneg 0 hq fj.rf es (by rw [if_pos e1]), fun es => ?_⟩, fun e1 => ⟨fun e2 => ?_, fun e2 => ⟨by unfold qb_in; omega, fun ck => ?_, fun ck => ?_⟩⟩⟩
  · have hS3 : 0 ≤ S ∧ S ≤ 3 := by omega
    refine s_ju_explaining hJq hS3 (fun hr f1 f2 => ?_) (fun hr x f1 f2 f3 f4 f5 => ?_)
    · refine hmpos _ hr f1 hS3 (fun _ => by rw [if_pos e1]) (fun x hx hP e => ?_)
      have := sN_in (hp := hq) (many := S) x
      omega
    · have := sN_in (hp := hq) (many := S) x
      omega
  · by_cases es : S = -6
    · exact hmneg _ hq fj.rf es (by rw [if_neg e1])
    · refine hmpos _ hq fj.rf (by omega) (fun _ => by rw [if_neg e1]) (fun x hx hP e => ?_)
      have := sN_in (hp := hq) (many := S) x
      omega
  · by_cases es : S = -6
    · exact hmneg _ hq fj.rf es (by rw [if_neg e1])
    · refine hmpos _ hq fj.rf (by omega) (fun _ => by rw [if_neg e1]) (fun x hx hP e => ?_)
      have ck2 : v_m_in k 0 (S - 1) = 0 := ck
      unfold ssel
      rw [if_pos ck2]
  · have hk : 0 ≤ k ∧ k ≤ S - 1 := by
      rcases v_in_c (x := k) (a := 0) (b := S - 1) with z | z
      · exact absurd z.1 ck
      · exact z.2
    have hS3 : 0 ≤ S ∧ S ≤ 3 := by omega
    refine s_ju_explaining hJq hS3 (fun hr f1 f2 => ?_) (fun hr x f1 f2 f3 f4 f5 => ?_)
    · have hle := sN_none (i := i) (by omega) 27000 f2
      refine ⟨fun z => absurd hle z, fun y ey => ?_⟩
      rw [if_pos hle] at ey
      rw [ey]
      refine hmpos _ hr f1 hS3 (fun _ => by rw [if_neg e1]) (fun x hx hP e => absurd e (f2 x hx hP))
    · have hkk := f5 k hk.1 (by omega)
      have hgt : ¬ i + 1 ≤ i := by omega
      refine ⟨fun _ => ⟨by omega, hkk.1⟩, fun y ey => ?_⟩
      rw [if_neg hgt] at ey
      have ey2 : y = ssel S k x := by rw [ey]; unfold v_ju_chosenCause; exact hkk.2
      rw [ey2]
      refine hmpos _ hr f1 hS3 (fun hno => absurd f4 (hno x f2 f3)) (fun x' hx' hP' e' => ?_)
      have : x' = x := by
        rcases Nat.lt_trichotomy x' x with c | c | c
        · have a := sN_yes hP'
          have : ∀ y : Nat, x' + 1 ≤ y → sN hq S (x' + 1) ≤ sN hq S y := by
            intro y
            induction y with
            | zero => intro h; omega
            | succ y ih =>
              intro h
              by_cases e : x' + 1 = y + 1
              · rw [e]; exact Int.le_refl _
              · have i := ih (by omega)
                by_cases c : sP hq S y
                · rw [sN_yes c]; omega
                · rw [sN_no c]; exact i
          have b := this x c
          omega
        · exact c
        · have a := sN_yes f3
          have : ∀ y : Nat, x + 1 ≤ y → sN hq S (x + 1) ≤ sN hq S y := by
            intro y
            induction y with
            | zero => intro h; omega
            | succ y ih =>
              intro h
              by_cases e : x + 1 = y + 1
              · rw [e]; exact Int.le_refl _
              · have i := ih (by omega)
                by_cases c : sP hq S y
                · rw [sN_yes c]; omega
                · rw [sN_no c]; exact i
          have b := this x' c
          omega
      rw [this]
