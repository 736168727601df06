/-! loops: the latest of what fits -/
theorem qb_up (n : Nat) (r : Nat → Int → Prop) (hend : r n n) (hstep : ∀ k : Nat, k < n → r (k + 1) ((k : Int) + 1) → r k k) : r 0 0 := by
  have h : ∀ j k : Nat, k + j = n → r k k := by
    intro j
    induction j with
    | zero => intro k hk; have : k = n := by omega
              subst this; exact hend
    | succ j ih => intro k hk
                   exact hstep k (by omega) (by have := ih (k + 1) (by omega); simpa using this)
  have := h n 0 (by omega)
  simpa using this
def qb_lat (fit : Int → Prop) (dfit : ∀ x, Decidable (fit x)) (key : Int → Int) : Nat → Int
  | 0 => -6
  | k + 1 => if fit k ∧ (qb_lat fit dfit key k < 0 ∨ key (qb_lat fit dfit key k) ≤ key k) then k else qb_lat fit dfit key k
theorem qb_lat_in (fit : Int → Prop) (dfit : ∀ x, Decidable (fit x)) (key : Int → Int) : ∀ k : Nat, qb_lat fit dfit key k = -6 ∨ (0 ≤ qb_lat fit dfit key k ∧ qb_lat fit dfit key k < k) := by
  intro k
  induction k with
  | zero => exact Or.inl rfl
  | succ k ih =>
    simp only [qb_lat]
    split
    · omega
    · omega
theorem qb_lat_cg {fit fit' : Int → Prop} (dfit : ∀ x, Decidable (fit x)) (dfit' : ∀ x, Decidable (fit' x)) {key key' : Int → Int} (n : Nat) (hf : ∀ k : Nat, k < n → (fit k ↔ fit' k)) (hk : ∀ k : Nat, k < n → key k = key' k) : qb_lat fit dfit key n = qb_lat fit' dfit' key' n := by
  induction n with
  | zero => rfl
  | succ n ih =>
    have e := ih (fun k h => hf k (by omega)) (fun k h => hk k (by omega))
    have hr := qb_lat_in fit dfit key n
    simp only [qb_lat, ← e]
    have e2 : key (qb_lat fit dfit key n) = key' (qb_lat fit dfit key n) ∨ qb_lat fit dfit key n < 0 := by
      rcases hr with h | h
      · right; omega
      · left
        have := hk (qb_lat fit dfit key n).toNat (by omega)
        rw [Int.toNat_of_nonneg h.1] at this
        exact this
    have e3 : (fit n ∧ (qb_lat fit dfit key n < 0 ∨ key (qb_lat fit dfit key n) ≤ key n)) ↔ (fit' n ∧ (qb_lat fit dfit key n < 0 ∨ key' (qb_lat fit dfit key n) ≤ key' n)) := by
      rw [hf n (by omega), hk n (by omega)]
      rcases e2 with h | h
      · rw [h]
      · simp [h]
    by_cases c : fit n ∧ (qb_lat fit dfit key n < 0 ∨ key (qb_lat fit dfit key n) ≤ key n)
    · rw [if_pos c, if_pos (e3.mp c)]
    · rw [if_neg c, if_neg (fun z => c (e3.mpr z))]
-- acts of a day
def v_ac_actOn (x1 : Int) (hp : qb_H) : Int := qb_lat (fun k => hp 4 k ≤ x1) (fun _ => inferInstance) (hp 4) (hp 3 6).toNat
def g_ac_actOn (hp : qb_H) : Prop := 0 ≤ hp 3 6 ∧ hp 3 6 ≤ 8
theorem s_ac_actOn (x1 : Int) (hp : qb_H) (K : Int → qb_H → Prop) (hg : g_ac_actOn hp) (hK : K (v_ac_actOn x1 hp) hp) : c_ac_actOn x1 hp K := by
  obtain ⟨n, hn⟩ : ∃ n : Nat, hp 3 6 = n := ⟨_, (Int.toNat_of_nonneg hg.1).symm⟩
  have hn8 := hg.2
  unfold v_ac_actOn at hK
  rw [hn, Int.toNat_natCast] at hK
  refine b_ac_actOn (qb_up n (fun k i => r_ac_actOn_5 x1 (qb_lat (fun k => hp 4 k ≤ x1) (fun _ => inferInstance) (hp 4) k) i hp K) ?_ ?_)
  · exact b_ac_actOn_5 ⟨fun _ => hK, fun c => absurd hn (by omega)⟩
  · intro k hk ih
    have hr := qb_lat_in (fun k => hp 4 k ≤ x1) (fun _ => inferInstance) (hp 4) k
    refine b_ac_actOn_5 ⟨fun c => absurd c (by omega), fun _ => ⟨by omega, fun _ _ => by omega, fun y e => ?_⟩⟩
    subst e
    simp only [qb_lat] at ih
    grind
def v_sa_find (x1 x2 : Int) (hp : qb_H) : Int := qb_lat (fun k => hp 27 k = x1 ∧ hp 28 k ≤ x2) (fun _ => inferInstance) (hp 28) (hp 26 4).toNat
def g_sa_find (hp : qb_H) : Prop := 0 ≤ hp 26 4 ∧ hp 26 4 ≤ 12
theorem s_sa_find (x1 x2 : Int) (hp : qb_H) (K : Int → qb_H → Prop) (hg : g_sa_find hp) (hK : K (v_sa_find x1 x2 hp) hp) : c_sa_find x1 x2 hp K := by
  obtain ⟨n, hn⟩ : ∃ n : Nat, hp 26 4 = n := ⟨_, (Int.toNat_of_nonneg hg.1).symm⟩
  have hn8 := hg.2
  unfold v_sa_find at hK
  rw [hn, Int.toNat_natCast] at hK
  refine b_sa_find (qb_up n (fun k i => r_sa_find_6 x1 x2 (qb_lat (fun k => hp 27 k = x1 ∧ hp 28 k ≤ x2) (fun _ => inferInstance) (hp 28) k) i hp K) ?_ ?_)
  · exact b_sa_find_6 ⟨fun _ => hK, fun c => absurd hn (by omega)⟩
  · intro k hk ih
    have hr := qb_lat_in (fun k => hp 27 k = x1 ∧ hp 28 k ≤ x2) (fun _ => inferInstance) (hp 28) k
    refine b_sa_find_6 ⟨fun c => absurd c (by omega), fun _ => ⟨by omega, fun y e => ⟨fun _ _ => by omega, fun z f => ?_⟩⟩⟩
    subst e; subst f
    simp only [qb_lat] at ih
    grind
-- prices told of days
def qb_fc (kinds days vals tolds : Int → Int) (n : Nat) (kind day known : Int) (wo : Int) : Int :=
  if qb_lat (fun k => kinds k = kind ∧ tolds k ≤ known ∧ days k ≤ day) (fun _ => inferInstance) days n < 0 then wo else vals (qb_lat (fun k => kinds k = kind ∧ tolds k ≤ known ∧ days k ≤ day) (fun _ => inferInstance) days n)
def v_fc_find_f (x1 x2 x3 x4 : Int) (hp : qb_H) : Int := qb_fc (hp 41) (hp 42) (hp 43) (hp 44) (hp 40 4).toNat x1 x2 x3 x4
def g_fc_find_f (hp : qb_H) : Prop := 0 ≤ hp 40 4 ∧ hp 40 4 ≤ 60
theorem s_fc_find_f (x1 x2 x3 x4 : Int) (hp : qb_H) (K : Int → qb_H → Prop) (hg : g_fc_find_f hp) (hK : K (v_fc_find_f x1 x2 x3 x4 hp) hp) : c_fc_find_f x1 x2 x3 x4 hp K := by
  obtain ⟨n, hn⟩ : ∃ n : Nat, hp 40 4 = n := ⟨_, (Int.toNat_of_nonneg hg.1).symm⟩
  have hn8 := hg.2
  unfold v_fc_find_f qb_fc at hK
  rw [hn, Int.toNat_natCast] at hK
  refine b_fc_find_f (qb_up n (fun k i => r_fc_find_f_7 x1 x2 x3 x4 (qb_lat (fun k => hp 41 k = x1 ∧ hp 44 k ≤ x3 ∧ hp 42 k ≤ x2) (fun _ => inferInstance) (hp 42) k) i hp K) ?_ ?_)
  · have hr := qb_lat_in (fun k => hp 41 k = x1 ∧ hp 44 k ≤ x3 ∧ hp 42 k ≤ x2) (fun _ => inferInstance) (hp 42) n
    refine b_fc_find_f_7 ⟨fun _ => ⟨fun _ => by omega, fun y e => ?_⟩, fun c => absurd hn (by omega)⟩
    grind
  · intro k hk ih
    have hr := qb_lat_in (fun k => hp 41 k = x1 ∧ hp 44 k ≤ x3 ∧ hp 42 k ≤ x2) (fun _ => inferInstance) (hp 42) k
    refine b_fc_find_f_7 ⟨fun c => absurd c (by omega), fun _ => ⟨by omega, fun y e => ⟨fun _ _ => by omega, fun z f => ?_⟩⟩⟩
    subst e; subst f
    simp only [qb_lat] at ih
    grind
def v_fc_find_p (x1 x2 x3 x4 : Int) (hp : qb_H) : Int := qb_fc (hp 46) (hp 47) (hp 48) (hp 49) (hp 45 4).toNat x1 x2 x3 x4
def g_fc_find_p (hp : qb_H) : Prop := 0 ≤ hp 45 4 ∧ hp 45 4 ≤ 60
theorem s_fc_find_p (x1 x2 x3 x4 : Int) (hp : qb_H) (K : Int → qb_H → Prop) (hg : g_fc_find_p hp) (hK : K (v_fc_find_p x1 x2 x3 x4 hp) hp) : c_fc_find_p x1 x2 x3 x4 hp K := by
  obtain ⟨n, hn⟩ : ∃ n : Nat, hp 45 4 = n := ⟨_, (Int.toNat_of_nonneg hg.1).symm⟩
  have hn8 := hg.2
  unfold v_fc_find_p qb_fc at hK
  rw [hn, Int.toNat_natCast] at hK
  refine b_fc_find_p (qb_up n (fun k i => r_fc_find_p_7 x1 x2 x3 x4 (qb_lat (fun k => hp 46 k = x1 ∧ hp 49 k ≤ x3 ∧ hp 47 k ≤ x2) (fun _ => inferInstance) (hp 47) k) i hp K) ?_ ?_)
  · have hr := qb_lat_in (fun k => hp 46 k = x1 ∧ hp 49 k ≤ x3 ∧ hp 47 k ≤ x2) (fun _ => inferInstance) (hp 47) n
    refine b_fc_find_p_7 ⟨fun _ => ⟨fun _ => by omega, fun y e => ?_⟩, fun c => absurd hn (by omega)⟩
    grind
  · intro k hk ih
    have hr := qb_lat_in (fun k => hp 46 k = x1 ∧ hp 49 k ≤ x3 ∧ hp 47 k ≤ x2) (fun _ => inferInstance) (hp 47) k
    refine b_fc_find_p_7 ⟨fun c => absurd c (by omega), fun _ => ⟨by omega, fun y e => ⟨fun _ _ => by omega, fun z f => ?_⟩⟩⟩
    subst e; subst f
    simp only [qb_lat] at ih
    grind
-- the reference's
def v_m_actOn (x1 : Int) (hp : qb_H) : Int := qb_lat (fun k => hp 62 k ≤ x1) (fun _ => inferInstance) (hp 62) (hp 60 2).toNat
def g_m_actOn (hp : qb_H) : Prop := 0 ≤ hp 60 2 ∧ hp 60 2 ≤ 8
theorem s_m_actOn (x1 : Int) (hp : qb_H) (K : Int → qb_H → Prop) (hg : g_m_actOn hp) (hK : K (v_m_actOn x1 hp) hp) : c_m_actOn x1 hp K := by
  obtain ⟨n, hn⟩ : ∃ n : Nat, hp 60 2 = n := ⟨_, (Int.toNat_of_nonneg hg.1).symm⟩
  have hn8 := hg.2
  unfold v_m_actOn at hK
  rw [hn, Int.toNat_natCast] at hK
  refine b_m_actOn (qb_up n (fun k i => r_m_actOn_5 x1 (qb_lat (fun k => hp 62 k ≤ x1) (fun _ => inferInstance) (hp 62) k) i hp K) ?_ ?_)
  · exact b_m_actOn_5 ⟨fun _ => hK, fun c => absurd hn (by omega)⟩
  · intro k hk ih
    have hr := qb_lat_in (fun k => hp 62 k ≤ x1) (fun _ => inferInstance) (hp 62) k
    refine b_m_actOn_5 ⟨fun c => absurd c (by omega), fun _ => ⟨by omega, fun _ _ => by omega, fun y e => ?_⟩⟩
    subst e
    simp only [qb_lat] at ih
    grind
def qb_z (_ : Int) : Int := 0
def v_m_freeAt (x1 x2 : Int) (hp : qb_H) : Int := qb_fc qb_z (hp 74) (hp 75) (hp 76) (hp 60 18).toNat 0 x1 x2 10
def g_m_freeAt (hp : qb_H) : Prop := 0 ≤ hp 60 18 ∧ hp 60 18 ≤ 60
theorem s_m_freeAt (x1 x2 : Int) (hp : qb_H) (K : Int → qb_H → Prop) (hg : g_m_freeAt hp) (hK : K (v_m_freeAt x1 x2 hp) hp) : c_m_freeAt x1 x2 hp K := by
  obtain ⟨n, hn⟩ : ∃ n : Nat, hp 60 18 = n := ⟨_, (Int.toNat_of_nonneg hg.1).symm⟩
  have hn8 := hg.2
  have hz : ∀ k, qb_z k = 0 := fun _ => rfl
  unfold v_m_freeAt qb_fc at hK
  rw [hn, Int.toNat_natCast] at hK
  refine b_m_freeAt (qb_up n (fun k i => r_m_freeAt_6 x1 x2 (qb_lat (fun k => qb_z k = 0 ∧ hp 76 k ≤ x2 ∧ hp 74 k ≤ x1) (fun _ => inferInstance) (hp 74) k) i hp K) ?_ ?_)
  · have hr := qb_lat_in (fun k => qb_z k = 0 ∧ hp 76 k ≤ x2 ∧ hp 74 k ≤ x1) (fun _ => inferInstance) (hp 74) n
    refine b_m_freeAt_6 ⟨fun _ => ⟨fun _ => by omega, fun y e => ?_⟩, fun c => absurd hn (by omega)⟩
    grind
  · intro k hk ih
    have hr := qb_lat_in (fun k => qb_z k = 0 ∧ hp 76 k ≤ x2 ∧ hp 74 k ≤ x1) (fun _ => inferInstance) (hp 74) k
    refine b_m_freeAt_6 ⟨fun c => absurd c (by omega), fun _ => ⟨by omega, fun y e => ⟨fun _ _ => by omega, fun z f => ?_⟩⟩⟩
    subst e; subst f
    simp only [qb_lat, hz, true_and] at ih
    grind
def v_m_priceAt (x1 x2 x3 : Int) (hp : qb_H) : Int := qb_fc (hp 79) (hp 80) (hp 81) (hp 82) (hp 60 24).toNat x1 x2 x3 0
def g_m_priceAt (hp : qb_H) : Prop := 0 ≤ hp 60 24 ∧ hp 60 24 ≤ 60
theorem s_m_priceAt (x1 x2 x3 : Int) (hp : qb_H) (K : Int → qb_H → Prop) (hg : g_m_priceAt hp) (hK : K (v_m_priceAt x1 x2 x3 hp) hp) : c_m_priceAt x1 x2 x3 hp K := by
  obtain ⟨n, hn⟩ : ∃ n : Nat, hp 60 24 = n := ⟨_, (Int.toNat_of_nonneg hg.1).symm⟩
  have hn8 := hg.2
  unfold v_m_priceAt qb_fc at hK
  rw [hn, Int.toNat_natCast] at hK
  refine b_m_priceAt (qb_up n (fun k i => r_m_priceAt_7 x1 x2 x3 (qb_lat (fun k => hp 79 k = x1 ∧ hp 82 k ≤ x3 ∧ hp 80 k ≤ x2) (fun _ => inferInstance) (hp 80) k) i hp K) ?_ ?_)
  · have hr := qb_lat_in (fun k => hp 79 k = x1 ∧ hp 82 k ≤ x3 ∧ hp 80 k ≤ x2) (fun _ => inferInstance) (hp 80) n
    refine b_m_priceAt_7 ⟨fun _ => ⟨fun _ => by omega, fun y e => ?_⟩, fun c => absurd hn (by omega)⟩
    grind
  · intro k hk ih
    have hr := qb_lat_in (fun k => hp 79 k = x1 ∧ hp 82 k ≤ x3 ∧ hp 80 k ≤ x2) (fun _ => inferInstance) (hp 80) k
    refine b_m_priceAt_7 ⟨fun c => absurd c (by omega), fun _ => ⟨by omega, fun y e => ⟨fun _ _ => by omega, fun z f => ?_⟩⟩⟩
    subst e; subst f
    simp only [qb_lat] at ih
    grind
def qb_mS (x1 : Int) (hp : qb_H) (n : Nat) : Int := qb_lat (fun k => hp 69 (4 * k) = x1 ∧ hp 69 (4 * k + 1) ≤ hp 60 29) (fun _ => inferInstance) (fun k => hp 69 (4 * k + 1)) n
def v_m_saltOf (x1 x2 : Int) (hp : qb_H) : Int := if qb_mS x1 hp (hp 60 11).toNat < 0 then (if x2 = 2 then 0 else 50) else hp 69 (4 * qb_mS x1 hp (hp 60 11).toNat + x2)
def g_m_saltOf (x2 : Int) (hp : qb_H) : Prop := (0 ≤ hp 60 11 ∧ hp 60 11 ≤ 12) ∧ (0 ≤ x2 ∧ x2 < 4)
theorem s_m_saltOf (x1 x2 : Int) (hp : qb_H) (K : Int → qb_H → Prop) (hg : g_m_saltOf x2 hp) (hK : K (v_m_saltOf x1 x2 hp) hp) : c_m_saltOf x1 x2 hp K := by
  obtain ⟨n, hn⟩ : ∃ n : Nat, hp 60 11 = n := ⟨_, (Int.toNat_of_nonneg hg.1.1).symm⟩
  have hn8 := hg.1.2
  have hx := hg.2
  unfold v_m_saltOf at hK
  rw [hn, Int.toNat_natCast] at hK
  refine b_m_saltOf (qb_up n (fun k i => r_m_saltOf_6 x1 x2 (qb_mS x1 hp k) i hp K) ?_ ?_)
  · have hr : qb_mS x1 hp n = -6 ∨ 0 ≤ qb_mS x1 hp n ∧ qb_mS x1 hp n < n := qb_lat_in _ _ _ n
    refine b_m_saltOf_6 ⟨fun _ => ⟨fun _ => by unfold qb_in; omega, fun y e => ?_⟩, fun c => absurd hn (by omega)⟩
    grind
  · intro k hk ih
    have hr : qb_mS x1 hp k = -6 ∨ 0 ≤ qb_mS x1 hp k ∧ qb_mS x1 hp k < k := qb_lat_in _ _ _ k
    refine b_m_saltOf_6 ⟨fun c => absurd c (by omega), fun _ => ⟨by unfold qb_in; omega, by omega, fun _ => by omega, fun y e => ⟨fun _ _ => by unfold qb_in; omega, fun z f => ⟨by unfold qb_in; omega, ?_⟩⟩⟩⟩
    subst e; subst f
    have e2 : qb_mS x1 hp (k + 1) = if (hp 69 (4 * k) = x1 ∧ hp 69 (4 * k + 1) ≤ hp 60 29) ∧ (qb_mS x1 hp k < 0 ∨ hp 69 (4 * qb_mS x1 hp k + 1) ≤ hp 69 (4 * k + 1)) then (k : Int) else qb_mS x1 hp k := rfl
    rw [e2] at ih
    grind
/-! sums -/
def qb_sum (f : Int → Int) : Nat → Int
  | 0 => 0
  | k + 1 => qb_sum f k + f k
theorem qb_sum_cg {f g : Int → Int} (n : Nat) (h : ∀ k : Nat, k < n → f k = g k) : qb_sum f n = qb_sum g n := by
  induction n with
  | zero => rfl
  | succ n ih => simp only [qb_sum]; rw [ih (fun k hk => h k (by omega)), h n (by omega)]
theorem qb_sum_in {f : Int → Int} {lo hi : Int} (n : Nat) (h : ∀ k : Nat, k < n → lo ≤ f k ∧ f k ≤ hi) : lo * n ≤ qb_sum f n ∧ qb_sum f n ≤ hi * n := by
  induction n with
  | zero => simp [qb_sum]
  | succ n ih =>
    have h1 := ih (fun k hk => h k (by omega))
    have h2 := h n (by omega)
    simp only [qb_sum]
    have e1 : lo * ((n + 1 : Nat) : Int) = lo * n + lo := by rw [Int.natCast_succ, Int.mul_add, Int.mul_one]
    have e2 : hi * ((n + 1 : Nat) : Int) = hi * n + hi := by rw [Int.natCast_succ, Int.mul_add, Int.mul_one]
    rw [e1, e2]
    omega
theorem qb_sum_le {f g : Int → Int} (n : Nat) (h : ∀ k : Nat, k < n → f k ≤ g k) : qb_sum f n ≤ qb_sum g n := by
  induction n with
  | zero => exact Int.le_refl _
  | succ n ih =>
    have h1 := ih (fun k hk => h k (by omega))
    have h2 := h n (by omega)
    simp only [qb_sum]
    omega
theorem qb_sum_add {f g : Int → Int} (n : Nat) : qb_sum (fun k => f k + g k) n = qb_sum f n + qb_sum g n := by
  induction n with
  | zero => rfl
  | succ n ih => simp only [qb_sum]; rw [ih]; omega
theorem qb_sum_0 (n : Nat) : qb_sum (fun _ => 0) n = 0 := by
  induction n with
  | zero => rfl
  | succ n ih => simp only [qb_sum]; rw [ih]; rfl
