/-! the reference: sets of causes by codes -/
abbrev jxe (hp : qb_H) (a b c kz : Int) : Prop := jr hp kz = 0 ∨ (¬ a < 0 ∧ ¬ v_m_hasCause kz a hp = 0) ∨ (¬ b < 0 ∧ ¬ v_m_hasCause kz b hp = 0) ∨ (¬ c < 0 ∧ ¬ v_m_hasCause kz c hp = 0)
def jx (hp : qb_H) (a b c : Int) : Nat → Int
  | 0 => 1
  | kz + 1 => if jx hp a b c kz = 0 then 0 else if jxe hp a b c kz then 1 else 0
theorem jx_01 (hp : qb_H) (a b c : Int) : ∀ n : Nat, jx hp a b c n = 0 ∨ jx hp a b c n = 1 := by
  intro n
  induction n with
  | zero => exact Or.inr rfl
  | succ n ih =>
    simp only [jx]
    split
    · exact Or.inl rfl
    · split
      · exact Or.inr rfl
      · exact Or.inl rfl
theorem jx_1 {hp : qb_H} {a b c : Int} : ∀ n : Nat, ¬ jx hp a b c n = 0 ↔ ∀ kz : Nat, kz < n → jxe hp a b c kz := by
  intro n
  induction n with
  | zero => exact ⟨fun _ kz h => by omega, fun _ => by show ¬ (1 : Int) = 0; decide⟩
  | succ n ih =>
    simp only [jx]
    constructor
    · intro h kz hk
      by_cases e : jx hp a b c n = 0
      · rw [if_pos e] at h; exact absurd rfl h
      · rw [if_neg e] at h
        by_cases e2 : kz = n
        · subst e2
          apply Classical.byContradiction
          intro z
          rw [if_neg z] at h; exact h rfl
        · exact (ih.1 e) kz (by omega)
    · intro h
      have e := ih.2 (fun kz hk => h kz (by omega))
      rw [if_neg e, if_pos (h n (by omega))]
      decide
theorem jx_dn {hp : qb_H} {a b c : Int} {kz n : Nat} (h : kz ≤ n) (h0 : jx hp a b c kz = 0) : jx hp a b c n = 0 := by
  apply Classical.byContradiction
  intro z
  exact ((jx_1 kz).2 (fun i hi => (jx_1 n).1 z i (by omega))) h0
theorem has_v (hp : qb_H) (kz c : Int) : ¬ v_m_hasCause kz c hp = 0 ↔ jh hp kz c := by
  have e : v_m_hasCause kz c hp = if jh hp kz c then 1 else 0 := rfl
  rw [e]
  by_cases h : jh hp kz c
  · rw [if_pos h]; exact ⟨fun _ => h, fun _ => by decide⟩
  · rw [if_neg h]; exact ⟨fun z => absurd rfl z, fun z => absurd z h⟩
theorem s_m_explain {hp : qb_H} (hJ : qb_iJ hp) {a b c : Int} (ha : a < 30) (hb : b < 30) (hc : c < 30) {K : Int → qb_H → Prop} (hK : K (jx hp a b c (hp 60 13).toNat) hp) : c_m_explain a b c hp K := by
  obtain ⟨n, hn⟩ : ∃ n : Nat, hp 60 13 = n := ⟨_, (Int.toNat_of_nonneg hJ.2.1.1).symm⟩
  have hn24 := hJ.2.1.2
  rw [hn, Int.toNat_natCast] at hK
  refine b_m_explain (qb_up n (fun k x => r_m_explain_6 a b c (jx hp a b c k) x hp K) ?_ ?_)
  · exact b_m_explain_6 ⟨fun _ => ⟨jx_01 hp a b c n, hK⟩, fun z => absurd hn (by omega)⟩
  · intro k hk ih
    have ga : ¬ a < 0 → g_m_hasCause k a := fun h => has_g (kz := (k : Int)) (by omega) (by omega)
    have gb : ¬ b < 0 → g_m_hasCause k b := fun h => has_g (kz := (k : Int)) (by omega) (by omega)
    have gc : ¬ c < 0 → g_m_hasCause k c := fun h => has_g (kz := (k : Int)) (by omega) (by omega)
    refine b_m_explain_6 ⟨fun z => absurd z (by omega), fun _ => ⟨fun e => ⟨Or.inl e, ?_⟩, fun e => ⟨fun _ => ⟨fun _ => gc, fun h => ⟨gb h, fun _ => gc⟩⟩, fun h => ⟨ga h, fun _ => ⟨fun _ => gc, fun h => ⟨gb h, fun _ => gc⟩⟩⟩, fun y ey => ⟨by unfold qb_in; omega, by unfold qb_in; omega, by omega, fun w ew => ⟨by unfold qb_in; omega, ?_⟩⟩⟩⟩⟩
    · rw [e, ← jx_dn (Nat.le_of_lt hk) e]; exact hK
    · have e1 : jx hp a b c (k + 1) = if jxe hp a b c k then 1 else 0 := by
        simp only [jx]; rw [if_neg e]
      have hy : y = if (¬ a < 0 ∧ ¬ v_m_hasCause k a hp = 0) ∨ (¬ b < 0 ∧ ¬ v_m_hasCause k b hp = 0) ∨ (¬ c < 0 ∧ ¬ v_m_hasCause k c hp = 0) then 1 else 0 := by
        rw [ey]
        generalize v_m_hasCause k a hp = va
        generalize v_m_hasCause k b hp = vb
        generalize v_m_hasCause k c hp = vc
        clear ey e1 ih hK ga gb gc
        grind
      have hw : w = jx hp a b c (k + 1) := by
        rw [ew, e1, hy]
        by_cases h0 : jr hp k = 0
        · have h0' : hp 70 (4 * (k : Int) + 3) = 0 := h0
          rw [if_pos h0', if_pos (Or.inl h0)]
        · have h0' : ¬ hp 70 (4 * (k : Int) + 3) = 0 := h0
          rw [if_neg h0']
          by_cases h7 : (¬ a < 0 ∧ ¬ v_m_hasCause k a hp = 0) ∨ (¬ b < 0 ∧ ¬ v_m_hasCause k b hp = 0) ∨ (¬ c < 0 ∧ ¬ v_m_hasCause k c hp = 0)
          · rw [if_pos h7, if_neg (by decide), if_pos (Or.inr h7)]
          · rw [if_neg h7, if_pos rfl, if_neg (fun z => z.elim h0 h7)]
      rw [hw]; exact ih
def sv (many x : Int) : Int := if many = 0 then (if x = 0 then (1 : Int) else 0) else (if many = 1 then (if ((x / 30) % 30) = 0 then (if (x % 30) = 0 then (1 : Int) else 0) else 0) else (if many = 2 then (if ((x / 30) % 30) ≤ (x / 900) then (0 : Int) else (if (x % 30) = 0 then (1 : Int) else 0)) else (if ((x / 30) % 30) ≤ (x / 900) then (0 : Int) else (if (x % 30) ≤ ((x / 30) % 30) then (0 : Int) else 1))))
def sA (hp : qb_H) (many x : Int) : Prop := ¬ sv many x = 0 ∧ (¬ many < 1 → ¬ jm hp (x / 900) = 0) ∧ (¬ many < 2 → ¬ jm hp (x / 30 % 30) = 0) ∧ (¬ many < 3 → ¬ jm hp (x % 30) = 0)
def sX (hp : qb_H) (many x : Int) : Int := jx hp (if many ≤ 0 then ((-1) : Int) else (x / 900)) (if many ≤ 1 then ((-1) : Int) else (x / 30 % 30)) (if many ≤ 2 then ((-1) : Int) else (x % 30)) (hp 60 13).toNat
def sP (hp : qb_H) (many x : Int) : Prop := sA hp many x ∧ ¬ sX hp many x = 0
noncomputable def sN (hp : qb_H) (many : Int) (n : Nat) : Int := qb_sum (fun x => @ite _ (sP hp many x) (Classical.propDecidable _) 1 0) n
def ssel (many j x : Int) : Int := if (v_m_in j 0 (many - 1)) = 0 then ((-6) : Int) else (if j = 0 then (x / 900) else (if j = 1 then (x / 30 % 30) else (x % 30)))
theorem sN_yes {hp : qb_H} {many : Int} {n : Nat} (h : sP hp many n) : sN hp many (n + 1) = sN hp many n + 1 := by
  show sN hp many n + @ite _ (sP hp many n) (Classical.propDecidable _) 1 0 = _
  rw [if_pos h]
theorem sN_no {hp : qb_H} {many : Int} {n : Nat} (h : ¬ sP hp many n) : sN hp many (n + 1) = sN hp many n := by
  show sN hp many n + @ite _ (sP hp many n) (Classical.propDecidable _) 1 0 = _
  rw [if_neg h]; omega
theorem sN_in {hp : qb_H} {many : Int} (n : Nat) : 0 ≤ sN hp many n ∧ sN hp many n ≤ n := by
  induction n with
  | zero => exact ⟨Int.le_refl 0, Int.le_refl 0⟩
  | succ n ih =>
    by_cases c : sP hp many n
    · rw [sN_yes c]; omega
    · rw [sN_no c]; omega
theorem sN_skip {hp : qb_H} {many : Int} {x y : Nat} (hxy : x ≤ y) (h : ∀ z : Nat, x ≤ z → z < y → ¬ sP hp many z) : sN hp many y = sN hp many x := by
  induction y with
  | zero => have : x = 0 := by omega
            rw [this]
  | succ y ih =>
    by_cases e : x = y + 1
    · rw [e]
    · rw [sN_no (h y (by omega) (by omega))]
      exact ih (by omega) (fun z h1 h2 => h z h1 (by omega))
theorem sN_none {hp : qb_H} {many i : Int} (hi : 0 ≤ i) : ∀ n : Nat, (∀ x : Nat, x < n → sP hp many x → sN hp many x ≠ i) → sN hp many n ≤ i := by
  intro n
  induction n with
  | zero => intro _; exact hi
  | succ n ih =>
    intro h
    have i1 := ih (fun x hx => h x (by omega))
    by_cases c : sP hp many n
    · rw [sN_yes c]
      have := h n (by omega) c
      omega
    · rw [sN_no c]; exact i1
theorem m_set_step {hp : qb_H} (hJ : qb_iJ hp) {many i j nn x : Int} (hm : 0 ≤ many ∧ many ≤ 3) (hx : 0 ≤ x ∧ x < 27000) (hnn : 0 ≤ nn ∧ nn ≤ 27000) {K : Int → qb_H → Prop}
    (hno : ¬ sP hp many x → r_m_setOf_6 many i j nn (x + 1) hp K)
    (hyes : sP hp many x → (nn = i → K (ssel many j x) hp) ∧ (¬ nn = i → r_m_setOf_6 many i j (nn + 1) (x + 1) hp K)) : r_m_setOf_6 many i j nn x hp K := by
  have q1 : qb_in (x + 1) := by unfold qb_in; omega
  have hc : 0 ≤ x % 30 ∧ x % 30 < 30 := by omega
  have hb : 0 ≤ x / 30 % 30 ∧ x / 30 % 30 < 30 := by omega
  have ha : 0 ≤ x / 900 ∧ x / 900 < 30 := by omega
  have leaf : sA hp many x → c_m_explain (if many ≤ 0 then ((-1) : Int) else (x / 900)) (if many ≤ 1 then ((-1) : Int) else (x / 30 % 30)) (if many ≤ 2 then ((-1) : Int) else (x % 30)) hp (fun v hq => (v = 0 → (qb_in (x + 1)) ∧ r_m_setOf_6 many i j nn (x + 1) hq K) ∧ (¬ v = 0 → (nn = i → (qb_in (many - 1)) ∧ K (if (v_m_in j 0 (many - 1)) = 0 then ((-6) : Int) else (if j = 0 then (x / 900) else (if j = 1 then (x / 30 % 30) else (x % 30)))) hq) ∧ (¬ nn = i → (qb_in (nn + 1)) ∧ (qb_in (x + 1)) ∧ r_m_setOf_6 many i j (nn + 1) (x + 1) hq K))) := by
    intro hA
    refine s_m_explain hJ (by split <;> omega) (by split <;> omega) (by split <;> omega) ⟨fun e => ⟨q1, hno (fun z => z.2 e)⟩, fun e => ?_⟩
    have := hyes ⟨hA, e⟩
    exact ⟨fun z => ⟨by unfold qb_in; omega, this.1 z⟩, fun z => ⟨by unfold qb_in; omega, q1, this.2 z⟩⟩
  have j3 : ¬ jm hp (x % 30) = 0 → ¬ (if jm hp (x % 30) = 0 then (0 : Int) else 1) = 0 := fun h => by rw [if_neg h]; decide
  refine b_m_setOf_6 ⟨fun z => absurd z (by omega), fun _ => ⟨hx.1, by omega, fun y ey => ?_⟩⟩
  subst ey
  refine fun w ew => ⟨fun z => ⟨q1, hno (fun hp' => hp'.1.1 ?_)⟩, fun z => ?_⟩
  · have e : sv many x = w := ew.symm
    rw [e]; exact z
  have hsv : ¬ sv many x = 0 := by
    have e : sv many x = w := ew.symm
    rw [e]; exact z
  refine ⟨fun m1 => ⟨fun m2 => ⟨fun m3 => ?_, fun m3 => absurd m1 (by omega)⟩, fun m2 => absurd m1 (by omega)⟩, fun m1 => ?_⟩
  · intro y1 e1 y2 e2 y3 e3
    subst e1; subst e2; subst e3
    exact leaf ⟨hsv, fun z => absurd m1 z, fun z => absurd m2 z, fun z => absurd m3 z⟩
  · refine s_m_mayBe hJ ha ⟨fun e => ⟨q1, hno (fun hp' => hp'.1.2.1 m1 e)⟩, fun f1 => ⟨fun m2 => ⟨fun m3 => ?_, fun m3 => absurd m2 (by omega)⟩, fun m2 => ?_⟩⟩
    · exact leaf ⟨hsv, fun _ => f1, fun z => absurd m2 z, fun z => absurd m3 z⟩
    · refine s_m_mayBe hJ hb ⟨fun e => ⟨q1, hno (fun hp' => hp'.1.2.2.1 m2 e)⟩, fun f2 => ⟨fun m3 => ?_, fun m3 => ?_⟩⟩
      · exact leaf ⟨hsv, fun _ => f1, fun _ => f2, fun z => absurd m3 z⟩
      · refine s_m_mayBe hJ hc ⟨fun e => ⟨q1, hno (fun hp' => ?_)⟩, fun e => ?_⟩
        · have := hp'.1.2.2.2 m3
          rw [if_neg this] at e
          exact absurd e (by decide)
        · have f3 : ¬ jm hp (x % 30) = 0 := fun q => e (by rw [if_pos q])
          exact leaf ⟨hsv, fun _ => f1, fun _ => f2, fun _ => f3⟩
theorem s_m_setOf {hp : qb_H} (hJ : qb_iJ hp) {many i j : Int} (hm : 0 ≤ many ∧ many ≤ 3) {K : Int → qb_H → Prop}
    (hK1 : (∀ x : Nat, x < 27000 → sP hp many x → sN hp many x ≠ i) → K (if i = -1 then sN hp many 27000 else -6) hp)
    (hK2 : ∀ x : Nat, x < 27000 → sP hp many x → sN hp many x = i → K (ssel many j x) hp) : c_m_setOf many i j hp K := by
  have key : ∀ (d x : Nat), x + d = 27000 → (∀ y : Nat, y < x → sP hp many y → sN hp many y ≠ i) → r_m_setOf_6 many i j (sN hp many x) x hp K := by
    intro d
    induction d with
    | zero =>
      intro x hx h
      have e : x = 27000 := by omega
      subst e
      exact b_m_setOf_6 ⟨fun _ y ey => by rw [ey]; exact hK1 h, fun z => absurd (by omega) z⟩
    | succ d ih =>
      intro x hx h
      have hs := sN_in (hp := hp) (many := many) x
      refine m_set_step hJ hm (by omega) (by omega) (fun hno => ?_) (fun hyes => ⟨fun e => hK2 x (by omega) hyes e, fun e => ?_⟩)
      · have := ih (x + 1) (by omega) (fun y hy hP => by
          by_cases e : y = x
          · rw [e] at hP; exact absurd hP hno
          · exact h y (by omega) hP)
        rw [sN_no hno, Int.natCast_succ] at this
        exact this
      · have := ih (x + 1) (by omega) (fun y hy hP => by
          by_cases e2 : y = x
          · rw [e2]; exact e
          · exact h y (by omega) hP)
        rw [sN_yes hyes, Int.natCast_succ] at this
        exact this
  exact b_m_setOf (key 27000 0 (by omega) (fun y hy => by omega))
/-- the fewest causes -/
noncomputable def fw (hp : qb_H) : Int := if ¬ sN hp 0 27000 ≤ 0 then 0 else if ¬ sN hp 1 27000 ≤ 0 then 1 else if ¬ sN hp 2 27000 ≤ 0 then 2 else if ¬ sN hp 3 27000 ≤ 0 then 3 else -6
theorem fw_in (hp : qb_H) : fw hp = -6 ∨ (0 ≤ fw hp ∧ fw hp ≤ 3) := by
  unfold fw
  split
  · omega
  · split
    · omega
    · split
      · omega
      · split <;> omega
theorem s_m_fewest {hp : qb_H} (hJ : qb_iJ hp) {K : Int → qb_H → Prop} (hK : K (fw hp) hp) : c_m_fewest hp K := by
  have one : ∀ many : Int, 0 ≤ many → many ≤ 3 → (sN hp many 27000 ≤ 0 → r_m_fewest_2 (many + 1) hp K) → (¬ sN hp many 27000 ≤ 0 → K many hp) → r_m_fewest_2 many hp K := by
    intro many h0 h1 k1 k2
    refine b_m_fewest_2 ⟨fun z => absurd z (by omega), fun _ => s_m_setOf hJ ⟨h0, h1⟩ (fun _ => ?_) (fun x hx hP e => ?_)⟩
    · rw [if_pos rfl]
      exact ⟨fun z => ⟨by unfold qb_in; omega, k1 z⟩, k2⟩
    · have := sN_in (hp := hp) (many := many) x
      omega
  unfold fw at hK
  refine b_m_fewest (one 0 (by decide) (by decide) (fun a => ?_) (fun a => ?_))
  · rw [if_neg (fun z => z a)] at hK
    refine one 1 (by decide) (by decide) (fun b => ?_) (fun b => ?_)
    · rw [if_neg (fun z => z b)] at hK
      refine one 2 (by decide) (by decide) (fun c => ?_) (fun c => ?_)
      · rw [if_neg (fun z => z c)] at hK
        refine one 3 (by decide) (by decide) (fun d => ?_) (fun d => ?_)
        · rw [if_neg (fun z => z d)] at hK
          exact b_m_fewest_2 ⟨fun _ => hK, fun z => absurd (by decide) z⟩
        · rw [if_pos d] at hK; exact hK
      · rw [if_pos c] at hK; exact hK
    · rw [if_pos b] at hK; exact hK
  · rw [if_pos a] at hK; exact hK
