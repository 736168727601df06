/-! salts in both; the brand of a barrel as a value -/
def qb_iS (hp : qb_H) : Prop := hp 26 4 = hp 60 11 ∧ (0 ≤ hp 60 11 ∧ hp 60 11 ≤ 12) ∧ ∀ k : Int, 0 ≤ k → k < hp 60 11 → hp 27 k = hp 69 (4 * k) ∧ hp 28 k = hp 69 (4 * k + 1) ∧ hp 29 k = hp 69 (4 * k + 2) ∧ hp 30 k = hp 69 (4 * k + 3)
def v_sfind (q d : Int) (hp : qb_H) : Int := qb_lat (fun k => hp 69 (4 * k) = q ∧ hp 69 (4 * k + 1) ≤ d) (fun _ => inferInstance) (fun k => hp 69 (4 * k + 1)) (hp 60 11).toNat
def v_salt (q what d : Int) (hp : qb_H) : Int := if v_sfind q d hp < 0 then (if what = 2 then 0 else 50) else hp 69 (4 * v_sfind q d hp + what)
theorem m_salt_is (q what : Int) (hp : qb_H) : v_m_saltOf q what hp = v_salt q what (hp 60 29) hp := rfl
theorem sfind_is {hp : qb_H} (h : qb_iS hp) (q d : Int) : v_sa_find q d hp = v_sfind q d hp ∧ (v_sfind q d hp = -6 ∨ (0 ≤ v_sfind q d hp ∧ v_sfind q d hp < hp 60 11)) := by
  obtain ⟨h1, h2, h3⟩ := h
  obtain ⟨n, hn⟩ : ∃ n : Nat, hp 60 11 = n := ⟨_, (Int.toNat_of_nonneg h2.1).symm⟩
  unfold v_sa_find v_sfind
  rw [h1, hn, Int.toNat_natCast]
  refine ⟨qb_lat_cg _ _ n (fun k hk => ?_) (fun k hk => (h3 k (by omega) (by omega)).2.1), qb_lat_in _ _ _ n⟩
  have := h3 k (by omega) (by omega)
  rw [this.1, this.2.1]
theorem s_sa_muchAt (q d : Int) (hp : qb_H) (K : Int → qb_H → Prop) (hg : qb_iS hp) (hK : K (v_salt q 3 d hp) hp) : c_sa_muchAt q d hp K := by
  obtain ⟨e1, e2⟩ := sfind_is hg q d
  obtain ⟨h1, h2, h3⟩ := hg
  refine b_sa_muchAt (s_sa_find q d hp _ ⟨by omega, by omega⟩ ⟨fun _ => by omega, fun y e => ?_⟩)
  rw [e, e1]
  unfold v_salt at hK
  by_cases c : v_sfind q d hp = -6
  · rw [if_pos (show v_sfind q d hp < 0 by omega), if_neg (by decide)] at hK
    rw [if_pos c]; exact hK
  · rw [if_neg (show ¬ v_sfind q d hp < 0 by omega), ← (h3 _ (by omega) (by omega)).2.2.2] at hK
    rw [if_neg c]; exact hK
theorem s_sa_lotAt (q d : Int) (hp : qb_H) (K : Int → qb_H → Prop) (hg : qb_iS hp) (hK : K (v_salt q 2 d hp) hp) : c_sa_lotAt q d hp K := by
  obtain ⟨e1, e2⟩ := sfind_is hg q d
  obtain ⟨h1, h2, h3⟩ := hg
  refine b_sa_lotAt (s_sa_find q d hp _ ⟨by omega, by omega⟩ ⟨fun _ => by omega, fun y e => ?_⟩)
  rw [e, e1]
  unfold v_salt at hK
  by_cases c : v_sfind q d hp = -6
  · rw [if_pos (show v_sfind q d hp < 0 by omega), if_pos rfl] at hK
    rw [if_pos c]; exact hK
  · rw [if_neg (show ¬ v_sfind q d hp < 0 by omega), ← (h3 _ (by omega) (by omega)).2.2.1] at hK
    rw [if_neg c]; exact hK
theorem iS_kS {hp hq : qb_H} (h : qb_iS hp) (hk : kS hp hq) : qb_iS hq := by
  unfold qb_iS at h ⊢
  rw [hk.1 26 (by decide) (by decide) (by decide) (by decide), hk.1 27 (by decide) (by decide) (by decide) (by decide), hk.1 28 (by decide) (by decide) (by decide) (by decide), hk.1 29 (by decide) (by decide) (by decide) (by decide), hk.1 30 (by decide) (by decide) (by decide) (by decide), hk.1 69 (by decide) (by decide) (by decide) (by decide), hk.2.1 11 (by decide)]
  exact h
theorem iD_kS {hp hq : qb_H} (h : qb_iD hp) (hk : kS hp hq) : qb_iD hq := by
  unfold qb_iD at h ⊢
  rw [hk.1 1 (by decide) (by decide) (by decide) (by decide), hk.1 2 (by decide) (by decide) (by decide) (by decide), hk.1 61 (by decide) (by decide) (by decide) (by decide), hk.2.1 0 (by decide)]
  exact h
theorem iA_kS {hp hq : qb_H} (h : qb_iA hp) (hk : kS hp hq) : qb_iA hq := by
  unfold qb_iA ac_ok ac_lt ac_kd ac_cp ac_nm ac_t at h ⊢
  rw [hk.1 3 (by decide) (by decide) (by decide) (by decide), hk.1 4 (by decide) (by decide) (by decide) (by decide), hk.1 5 (by decide) (by decide) (by decide) (by decide), hk.1 6 (by decide) (by decide) (by decide) (by decide), hk.1 7 (by decide) (by decide) (by decide) (by decide), hk.1 8 (by decide) (by decide) (by decide) (by decide), hk.1 9 (by decide) (by decide) (by decide) (by decide), hk.1 62 (by decide) (by decide) (by decide) (by decide), hk.1 63 (by decide) (by decide) (by decide) (by decide), hk.1 64 (by decide) (by decide) (by decide) (by decide), hk.2.1 2 (by decide)]
  exact h
/-- the facts of a barrel (done, most, least) at a quay -/
def bf (hp : qb_H) (q d m l x : Int) : Int := if x = 0 then m else if x = 1 then hp 67 1 / hp 67 2 else if x = 2 then v_salt q 3 d hp else if x = 3 then l else q
def bb (hp : qb_H) (q d m l day : Int) : Int := if v_m_actOn day hp < 0 then -6 else bv (ac_lt hp (v_m_actOn day hp)) (ac_kd hp (v_m_actOn day hp)) (ac_cp hp (v_m_actOn day hp)) (ac_nm hp (v_m_actOn day hp)) (bf hp q d m l) (hp 5 (v_m_actOn day hp)).toNat 0 0
theorem m_brand_is (q day : Int) (hp : qb_H) : v_m_brandOf q day hp = bb hp q (hp 60 29) (hp 60 30) (hp 60 31) day := rfl
theorem bb_kS {hp hq : qb_H} (hk : kS hp hq) (q d m l day : Int) : bb hq q d m l day = bb hp q d m l day := by
  have e : bf hq q d m l = bf hp q d m l := by
    funext x
    unfold bf v_salt v_sfind
    rw [hk.1 67 (by decide) (by decide) (by decide) (by decide), hk.1 69 (by decide) (by decide) (by decide) (by decide), hk.2.1 11 (by decide)]
  unfold bb v_m_actOn ac_lt ac_kd ac_cp ac_nm
  rw [e, hk.1 62 (by decide) (by decide) (by decide) (by decide), hk.1 5 (by decide) (by decide) (by decide) (by decide), hk.1 6 (by decide) (by decide) (by decide) (by decide), hk.1 7 (by decide) (by decide) (by decide) (by decide), hk.1 8 (by decide) (by decide) (by decide) (by decide), hk.1 9 (by decide) (by decide) (by decide) (by decide), hk.2.1 2 (by decide)]
