/-! SPREAD: the class's plan -/
def dg (m c i : Nat) : Nat := c / 4 ^ (m - 1 - i) % 4
theorem dg_lt (m c i : Nat) : dg m c i < 4 := Nat.mod_lt _ (by decide)
theorem dig_is {m c i : Nat} (hm : m ≤ 5) (hc : c < 1024) (hi : i < m) : qb_and (qb_shr c (2 * (((m : Int) - 1) - i))) 3 = ((dg m c i : Nat) : Int) := by
  have e : 2 * (((m : Int) - 1) - i) = ((2 * (m - 1 - i) : Nat) : Int) := by omega
  have hle : c >>> (2 * (m - 1 - i)) ≤ c := Nat.shiftRight_le c _
  rw [e, bt_shr (by omega) (by omega)]
  have b := bt_and (a := c >>> (2 * (m - 1 - i))) (b := 3) (by omega) (by decide)
  rw [show ((3 : Nat) : Int) = 3 from rfl] at b
  rw [b, show (3 : Nat) = 2 ^ 2 - 1 from rfl, Nat.and_two_pow_sub_one_eq_mod, Nat.shiftRight_eq_div_pow, Nat.pow_mul]
  rfl
theorem pw4 {m : Nat} (hm : m ≤ 5) : 4 ^ m ≤ 1024 ∧ 0 < 4 ^ m := ⟨Nat.pow_le_pow_right (by decide) hm, Nat.pow_pos (by decide)⟩
theorem pw2 {m : Nat} (hm : m ≤ 5) : 2 ^ m ≤ 32 ∧ 0 < 2 ^ m := ⟨Nat.pow_le_pow_right (by decide) hm, Nat.pow_pos (by decide)⟩
theorem shl4 {m : Nat} (hm : m ≤ 5) : qb_shl 1 (2 * (m : Int)) = ((4 ^ m : Nat) : Int) := by
  have h := (bt_shl (k := 2 * m) (by omega)).1
  rw [Nat.pow_mul] at h
  have e : 2 * (m : Int) = ((2 * m : Nat) : Int) := by omega
  rw [e, h]
/-- who is at a quay by a code -/
def qf (hp : qb_H) (m c : Nat) (k : Int) : Int := if hp 13 k = -1 then ((dg m c (wr hp k.toNat).toNat : Nat) : Int) else hp 13 k
def al (hp : qb_H) (m c : Nat) (Q k : Int) : Bool := decide (qf hp m c k = Q)
def SP (hp : qb_H) (n m c : Nat) : Int := qb_sum (fun Q => sc_sp (gx hp Q (al hp m c Q)) n) 4
theorem SP_at {hp : qb_H} {n : Nat} (hL : qb_iL hp n) (m c k : Nat) (hk : k ≤ 4) : 0 ≤ qb_sum (fun Q => sc_sp (gx hp Q (al hp m c Q)) n) k ∧ qb_sum (fun Q => sc_sp (gx hp Q (al hp m c Q)) n) k ≤ 600000 * k := by
  have hn30 := hL.2.1
  have := qb_sum_in (f := fun Q => sc_sp (gx hp Q (al hp m c Q)) n) (lo := 0) (hi := 600000) k (fun j hj => by
    have h := sp_rng (gx_ok hL (Q := (j : Int)) (by omega) (by omega) (al hp m c j)) n (Nat.le_refl n)
    show 0 ≤ sc_sp (gx hp (j : Int) (al hp m c j)) n ∧ sc_sp (gx hp (j : Int) (al hp m c j)) n ≤ 600000
    omega)
  omega
def am (f : Nat → Int) (c best : Nat) : Prop := best < c ∧ (∀ x : Nat, x < c → f best ≤ f x) ∧ ∀ x : Nat, x < best → f best < f x
theorem am_u {f : Nat → Int} {c b d : Nat} (h : am f c b) (h' : am f c d) : b = d := by
  rcases Nat.lt_trichotomy b d with z | z | z
  · have a := h'.2.2 b z
    have b := h.2.1 d h'.1
    omega
  · exact z
  · have a := h.2.2 d z
    have b := h'.2.1 b h.1
    omega
theorem am_keep {f : Nat → Int} {c b : Nat} (h : am f c b) (hc : f b ≤ f c) : am f (c + 1) b := by
  refine ⟨by have := h.1; omega, fun x hx => ?_, h.2.2⟩
  by_cases e : x = c
  · rw [e]; exact hc
  · exact h.2.1 x (by omega)
theorem am_new {f : Nat → Int} {c b : Nat} (h : am f c b) (hc : f c < f b) : am f (c + 1) c := by
  refine ⟨by omega, fun x hx => ?_, fun x hx => ?_⟩
  · by_cases e : x = c
    · rw [e]; exact Int.le_refl _
    · have := h.2.1 x (by omega); omega
  · have := h.2.1 x hx; omega
def sl (hp : qb_H) (n : Nat) (hq : qb_H) : Prop := (∀ c : Nat, c ≠ 50 → c ≠ 51 → c ≠ 52 → c ≠ 53 → hq c = hp c) ∧ hq 50 3 = wr hp n ∧ ∀ k : Nat, k < n → hp 13 k = -1 → hq 51 k = wr hp k ∧ hq 52 (wr hp k) = k
theorem s_sp_list {hp : qb_H} {n : Nat} (hB : qb_iB hp n) (hw5 : wr hp n ≤ 5) {K : qb_H → Prop} (hK : ∀ hq : qb_H, sl hp n hq → K hq) : c_sp_list hp K := by
  have hn := hB.1.1
  have hn30 := hB.1.2.1
  have key : ∀ hq : qb_H, sl hp 0 hq → r_sp_list_7 0 hq K := by
    refine qb_up n (fun k x => ∀ hq : qb_H, sl hp k hq → r_sp_list_7 x hq K) ?_ ?_
    · intro hq h
      exact b_sp_list_7 ⟨fun _ => hK hq h, fun z => absurd (by rw [h.1 11 (by decide) (by decide) (by decide) (by decide)]; omega) z⟩
    · intro k hk ih hq h
      obtain ⟨h1, h2, h3⟩ := h
      have hwk := wr_in (hp := hp) k
      refine b_sp_list_7 ⟨fun z => absurd z (by rw [h1 11 (by decide) (by decide) (by decide) (by decide)]; omega), fun _ => ⟨by omega, fun _ _ => by omega, fun hr er => ih hr ?_⟩⟩
      rw [h1 13 (by decide) (by decide) (by decide) (by decide), h2] at er
      by_cases c : hp 13 k = -1
      · have hlt := wr_lt (hp := hp) (k := k) (l := n) hk c
        rw [if_pos c, if_neg (by omega)] at er
        rw [er]
        refine ⟨fun cz c1 c2 c3 c4 => by rw [qb_st_ne c1, qb_st_ne c3, qb_st_ne c2]; exact h1 cz c1 c2 c3 c4, by rw [wr_yes c]; simp [qb_st], fun l hl hlw => ?_⟩
        have e51 : ∀ i : Int, qb_st (qb_st (qb_st hq 51 k (wr hp k)) 52 (wr hp k) k) 50 3 (wr hp k + 1) 51 i = if i = k then wr hp k else hq 51 i := fun i => by simp [qb_st]
        have e52 : ∀ i : Int, qb_st (qb_st (qb_st hq 51 k (wr hp k)) 52 (wr hp k) k) 50 3 (wr hp k + 1) 52 i = if i = wr hp k then (k : Int) else hq 52 i := fun i => by simp [qb_st]
        rw [e51, e52]
        by_cases e : l = k
        · rw [e, if_pos rfl, if_pos rfl]; exact ⟨rfl, rfl⟩
        · have := wr_lt (hp := hp) (k := l) (l := k) (by omega) hlw
          rw [if_neg (by omega), if_neg (by omega)]
          exact h3 l (by omega) hlw
      · rw [if_neg c] at er
        rw [er]
        refine ⟨h1, by rw [wr_no c]; exact h2, fun l hl hlw => ?_⟩
        by_cases e : l = k
        · rw [e] at hlw; exact absurd hlw c
        · exact h3 l (by omega) hlw
  refine b_sp_list (key _ ⟨fun c c1 c2 c3 c4 => qb_st_ne c1, by simp [qb_st]; rfl, fun k hk => by omega⟩)
def tb (hp : qb_H) (n m : Nat) (q s : Nat) (hq : qb_H) : Prop := sl hp n hq ∧ ∀ q' s' : Nat, q' < 4 → s' < 2 ^ m → (q' < q ∨ (q' = q ∧ s' < s)) → hq 53 ((q' : Int) * 32 + s') = sc_sp (gx hp q' (aj hp q' s')) n
theorem s_sp_sets {hp : qb_H} {n m : Nat} (hB : qb_iB hp n) (hm : wr hp n = m) (hm5 : m ≤ 5) {q : Nat} (hq4 : q < 4) {K : qb_H → Prop} (hK : ∀ hr : qb_H, tb hp n m (q + 1) 0 hr → r_sp_plan_7 (hp 10 0) ((q : Int) + 1) hr K) :
    ∀ (d s : Nat) (hr : qb_H), s + d = 2 ^ m → tb hp n m q s hr → r_sp_plan_15 (hp 10 0) q s hr K := by
  have hp2 := pw2 hm5
  have hsh := (bt_shl (k := m) (by omega)).1
  intro d
  induction d with
  | zero =>
    intro s hr hs h
    refine b_sp_plan_15 ⟨fun _ => ⟨by unfold qb_in; omega, hK hr ⟨h.1, fun q' s' h1 h2 h3 => ?_⟩⟩, fun z => absurd (by rw [h.1.2.1, hm, hsh]; omega) z⟩
    exact h.2 q' s' h1 h2 (by omega)
  | succ d ih =>
    intro s hr hs h
    obtain ⟨h1, h2⟩ := h
    refine b_sp_plan_15 ⟨fun z => absurd z (by rw [h1.2.1, hm, hsh]; omega), fun _ => ⟨by unfold qb_in; omega, by unfold qb_in; omega, ?_⟩⟩
    refine s_spoiltWith hB (by omega) (Q := (q : Int)) (by omega) (by omega) (set := s) (by omega) (fun c hc => h1.1 c (by omega) (by omega) (by omega) (by omega)) (fun k hk hkw => (h1.2.2 k hk hkw).1) ⟨by omega, by unfold qb_in; omega, ?_⟩
    have := ih (s + 1) (qb_st hr 53 ((q : Int) * 32 + s) (sc_sp (gx hp q (aj hp q s)) n)) (by omega) ⟨⟨fun c c1 c2 c3 c4 => by rw [qb_st_ne c4]; exact h1.1 c c1 c2 c3 c4, by rw [qb_st_ne (by decide)]; exact h1.2.1, fun k hk hkw => by rw [qb_st_ne (by decide), qb_st_ne (by decide)]; exact h1.2.2 k hk hkw⟩, fun q' s' g1 g2 g3 => ?_⟩
    · rw [Int.natCast_succ] at this
      exact this
    · by_cases e : (q' : Int) * 32 + s' = (q : Int) * 32 + s
      · have e1 : q' = q := by omega
        have e2 : s' = s := by omega
        rw [e1, e2]; simp [qb_st]
      · have g4 := h2 q' s' g1 g2 (by omega)
        rw [← g4]; simp [qb_st, e]
theorem s_sp_tables {hp : qb_H} {n m : Nat} (hB : qb_iB hp n) (hm : wr hp n = m) (hm5 : m ≤ 5) {K : qb_H → Prop} (hK : ∀ hr : qb_H, tb hp n m 4 0 hr → r_sp_plan_7 (hp 10 0) 4 hr K) (hr : qb_H) (h : sl hp n hr) : r_sp_plan_7 (hp 10 0) 0 hr K := by
  have key : ∀ (d q : Nat) (hr : qb_H), q + d = 4 → tb hp n m q 0 hr → r_sp_plan_7 (hp 10 0) q hr K := by
    intro d
    induction d with
    | zero =>
      intro q hr hq h
      have e : q = 4 := by omega
      subst e
      exact hK hr h
    | succ d ih =>
      intro q hr hq h
      refine b_sp_plan_7 ⟨fun z => absurd z (by omega), fun _ => s_sp_sets hB hm hm5 (by omega) (fun hs hs1 => ?_) (2 ^ m) 0 hr (by omega) h⟩
      have := ih (q + 1) hs (by omega) hs1
      rw [Int.natCast_succ] at this
      exact this
  exact key 4 0 hr (by omega) ⟨h, fun q' s' h1 h2 h3 => by omega⟩
/-- what is spoilt by a code -/
theorem s_sp_spoiltBy {hp hr : qb_H} {n m : Nat} (hB : qb_iB hp n) (hm : wr hp n = m) (hm5 : m ≤ 5) (h50 : hr 50 3 = m) (h53 : ∀ q' s' : Nat, q' < 4 → s' < 2 ^ m → hr 53 ((q' : Int) * 32 + s') = sc_sp (gx hp q' (aj hp q' s')) n) {c : Nat} (hc : c < 4 ^ m) {K : Int → qb_H → Prop} (hK : K (SP hp n m c) hr) : c_sp_spoiltBy c hr K := by
  have hp2 := pw2 hm5
  have hp4 := pw4 hm5
  have hn30 := hB.1.2.1
  refine b_sp_spoiltBy (qb_up 4 (fun q x => r_sp_spoiltBy_4 c (qb_sum (fun Q => sc_sp (gx hp Q (al hp m c Q)) n) q) x hr K) ?_ ?_)
  · exact b_sp_spoiltBy_4 ⟨fun _ => hK, fun z => absurd (by decide) z⟩
  · intro q hq ih
    refine b_sp_spoiltBy_4 ⟨fun z => absurd z (by omega), fun _ => ?_⟩
    have key : ∀ (d i s : Nat), i + d = m → s < 2147483648 → (∀ j : Nat, s.testBit j = true ↔ (j < i ∧ dg m c j = q)) → r_sp_spoiltBy_15 c (qb_sum (fun Q => sc_sp (gx hp Q (al hp m c Q)) n) q) q s i hr K := by
      intro d
      induction d with
      | zero =>
        intro i s hi hs hb
        have e : i = m := by omega
        subst e
        have hs2 : s < 2 ^ i := Nat.lt_pow_two_of_testBit s (fun j hj => by
          rcases t : s.testBit j with _ | _
          · rfl
          · have := ((hb j).1 t).1; omega)
        have e53 := h53 q s hq hs2
        have esp : sc_sp (gx hp q (aj hp q s)) n = sc_sp (gx hp q (al hp i c q)) n := by
          refine gx_sp hB.1 (fun k k0 k1 => ?_)
          have ek : (k.toNat : Int) = k := by omega
          have hr13 := (hB.1.2.2.2.1 k k0 k1).2.1
          unfold aj al qf
          by_cases cw : hp 13 k = -1
          · rw [if_pos cw]
            have w0 := wr_in (hp := hp) k.toNat
            have w1 := wr_lt (hp := hp) (k := k.toNat) (l := n) (by omega) (by rw [ek]; exact cw)
            have hbb := hb (wr hp k.toNat).toNat
            refine decide_eq_decide.2 ⟨fun z => ?_, fun z => ?_⟩
            · rcases z with ⟨-, z⟩ | z
              · have := (hbb.1 z).2; omega
              · rw [cw] at z; omega
            · exact Or.inl ⟨cw, hbb.2 ⟨by omega, by omega⟩⟩
          · rw [if_neg cw]
            exact decide_eq_decide.2 ⟨fun z => z.resolve_left (fun y => cw y.1), fun z => Or.inr z⟩
        have hrg := sp_rng (gx_ok hB.1 (Q := (q : Int)) (by omega) (by omega) (al hp i c q)) n (Nat.le_refl n)
        have hsm := SP_at hB.1 i c q (by omega)
        have hsm2 := SP_at hB.1 i c (q + 1) (by omega)
        have eup : qb_sum (fun Q => sc_sp (gx hp Q (al hp i c Q)) n) (q + 1) = qb_sum (fun Q => sc_sp (gx hp Q (al hp i c Q)) n) q + sc_sp (gx hp q (al hp i c q)) n := rfl
        refine b_sp_spoiltBy_15 ⟨fun _ => ?_, fun z => absurd (by rw [h50]; exact Int.le_refl _) z⟩
        rw [e53, esp, ← eup]
        exact ⟨by unfold qb_in; omega, by unfold qb_in; omega, by omega, by unfold qb_in; omega, fun y ey => ⟨by unfold qb_in; omega, by rw [ey]; exact ih⟩⟩
      | succ d ihd =>
        intro i s hi hs hb
        have hdi := dig_is (m := m) (c := c) (i := i) hm5 (by omega) (by omega)
        have hv : v_sp_digit c i hr = ((dg m c i : Nat) : Int) := by
          unfold v_sp_digit
          rw [h50]; exact hdi
        have hg : g_sp_digit c i hr := by
          unfold g_sp_digit
          rw [h50]
          exact ⟨by unfold qb_in; omega, by unfold qb_in; omega, by unfold qb_in; omega⟩
        refine b_sp_spoiltBy_15 ⟨fun z => absurd z (by rw [h50]; omega), fun _ => ⟨hg, by unfold qb_in; omega, ?_⟩⟩
        rw [hv]
        by_cases e : ((dg m c i : Nat) : Int) = q
        · rw [if_pos e]
          have hsh := bt_shl (k := i) (by omega)
          have ho := bt_or (a := s) (b := 2 ^ i) hs hsh.2
          rw [hsh.1, ho.1]
          have := ihd (i + 1) (s ||| 2 ^ i) (by omega) ho.2 (fun j => by
            rw [bt_put, Bool.or_eq_true, decide_eq_true_iff, hb]
            constructor
            · rintro (⟨a, b⟩ | a)
              · exact ⟨by omega, b⟩
              · rw [← a]; exact ⟨by omega, by omega⟩
            · rintro ⟨a, b⟩
              by_cases ej : i = j
              · exact Or.inr ej
              · exact Or.inl ⟨by omega, b⟩)
          rw [Int.natCast_succ] at this
          exact this
        · rw [if_neg e]
          have := ihd (i + 1) s (by omega) hs (fun j => by
            rw [hb]
            constructor
            · rintro ⟨a, b⟩
              exact ⟨by omega, b⟩
            · rintro ⟨a, b⟩
              refine ⟨?_, b⟩
              by_cases ej : j = i
              · rw [ej] at b; exact absurd (by rw [b]) e
              · omega)
          rw [Int.natCast_succ] at this
          exact this
    have := key m 0 0 (by omega) (by decide) (fun j => by rw [Nat.zero_testBit]; exact ⟨fun z => absurd z (by decide), fun z => by omega⟩)
    exact this
theorem s_sp_plan {hp : qb_H} {n m : Nat} (hB : qb_iB hp n) (hm : wr hp n = m) (hm5 : m ≤ 5) {K : qb_H → Prop}
    (hK : ∀ (hq : qb_H) (best : Nat), (∀ c : Nat, c ≠ 50 → c ≠ 51 → c ≠ 52 → c ≠ 53 → hq c = hp c) → hq 50 3 = m → hq 50 4 = SP hp n m best → hq 50 5 = best → am (SP hp n m) (4 ^ m) best → (∀ k : Nat, k < n → hp 13 k = -1 → hq 52 (wr hp k) = k) → K hq) : c_sp_plan (hp 10 0) hp K := by
  have hp4 := pw4 hm5
  refine b_sp_plan (s_sp_list hB (by omega) (fun hl l1 => s_sp_tables hB hm hm5 (fun hr h => ?_) hl l1))
  obtain ⟨⟨h1, h2, h3⟩, h4⟩ := h
  have t0 : qb_st hr 50 5 0 50 3 = m := by
    have : qb_st hr 50 5 0 50 3 = hr 50 3 := by simp [qb_st]
    rw [this, h2, hm]
  refine b_sp_plan_7 ⟨fun _ => s_sp_spoiltBy (c := 0) hB hm hm5 t0 (fun q' s' g1 g2 => by rw [qb_st_ne (by decide)]; exact h4 q' s' g1 g2 (Or.inl g1)) hp4.2 ?_, fun z => absurd (by decide) z⟩
  have key : ∀ (d c best : Nat) (hs : qb_H), c + d = 4 ^ m → (∀ c : Nat, c ≠ 50 → hs c = hr c) → hs 50 3 = m → hs 50 4 = SP hp n m best → hs 50 5 = best → am (SP hp n m) c best → r_sp_plan_78 c hs K := by
    intro d
    induction d with
    | zero =>
      intro c best hs hc s1 s2 s3 s4 s5
      have e : c = 4 ^ m := by omega
      refine b_sp_plan_78 ⟨by rw [s2]; unfold qb_in; omega, fun _ => hK hs best (fun cz c1 c2 c3 c4 => (s1 cz c1).trans (h1 cz c1 c2 c3 c4)) s2 s3 s4 (e ▸ s5) (fun k hk hkw => by rw [s1 52 (by decide)]; exact (h3 k hk hkw).2), fun z => absurd (by rw [s2, shl4 hm5]; omega) z⟩
    | succ d ih =>
      intro c best hs hc s1 s2 s3 s4 s5
      refine b_sp_plan_78 ⟨by rw [s2]; unfold qb_in; omega, fun z => absurd z (by rw [s2, shl4 hm5]; omega), fun _ => s_sp_spoiltBy hB hm hm5 s2 (fun q' s' g1 g2 => by rw [s1 53 (by decide)]; exact h4 q' s' g1 g2 (Or.inl g1)) (by omega) (fun ht et => ⟨by unfold qb_in; omega, ?_⟩)⟩
      rw [s3] at et
      have hgo : ∀ b' : Nat, (∀ c : Nat, c ≠ 50 → ht c = hr c) → ht 50 3 = m → ht 50 4 = SP hp n m b' → ht 50 5 = b' → am (SP hp n m) (c + 1) b' → r_sp_plan_78 ((c : Int) + 1) ht K := fun b' g1 g2 g3 g4 g5 => by
        have := ih (c + 1) b' ht (by omega) g1 g2 g3 g4 g5
        rw [Int.natCast_succ] at this
        exact this
      by_cases e : SP hp n m best ≤ SP hp n m c
      · rw [if_pos e] at et
        rw [et]
        rw [et] at hgo
        exact hgo best s1 s2 s3 s4 (am_keep s5 e)
      · rw [if_neg e] at et
        refine hgo c (fun cz hcz => ?_) ?_ ?_ ?_ (am_new s5 (by omega))
        · rw [et, qb_st_ne hcz, qb_st_ne hcz]; exact s1 cz hcz
        · rw [et]
          have : qb_st (qb_st hs 50 4 (SP hp n m c)) 50 5 c 50 3 = hs 50 3 := by simp [qb_st]
          rw [this]; exact s2
        · rw [et]; simp [qb_st]
        · rw [et]; simp [qb_st]
  have := key (4 ^ m - 1) 1 0 (qb_st (qb_st hr 50 5 0) 50 4 (SP hp n m 0)) (by omega) (fun c hc => by rw [qb_st_ne hc, qb_st_ne hc]) (by
    have : qb_st (qb_st hr 50 5 0) 50 4 (SP hp n m 0) 50 3 = hr 50 3 := by simp [qb_st]
    rw [this, h2, hm]) (by simp [qb_st]) (by simp [qb_st]) ⟨by omega, fun x hx => by
      have : x = 0 := by omega
      rw [this]; exact Int.le_refl _, fun x hx => by omega⟩
  exact this
