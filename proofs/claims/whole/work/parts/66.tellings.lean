/-! prices, boats, ships: what both hold; their plain calls -/
def qb_iF (hp : qb_H) : Prop := hp 40 4 = hp 60 18 ∧ (0 ≤ hp 60 18 ∧ hp 60 18 ≤ 60) ∧ ∀ k : Int, 0 ≤ k → k < hp 60 18 → hp 41 k = 0 ∧ hp 42 k = hp 74 k ∧ hp 43 k = hp 75 k ∧ hp 44 k = hp 76 k ∧ (1 ≤ hp 75 k ∧ hp 75 k ≤ 1000)
def qb_iP (hp : qb_H) : Prop := hp 45 4 = hp 60 24 ∧ (0 ≤ hp 60 24 ∧ hp 60 24 ≤ 60) ∧ ∀ k : Int, 0 ≤ k → k < hp 60 24 → hp 46 k = hp 79 k ∧ hp 47 k = hp 80 k ∧ hp 48 k = hp 81 k ∧ hp 49 k = hp 82 k ∧ (0 ≤ hp 81 k ∧ hp 81 k ≤ 1000)
def qb_iE (hp : qb_H) : Prop := ∀ b : Int, 0 ≤ b → b < 10 → hp 37 b = hp 71 b ∧ hp 38 b = hp 72 b ∧ hp 39 b = hp 73 b ∧ (-1 ≤ hp 71 b ∧ hp 71 b ≤ 3) ∧ (0 ≤ hp 72 b ∧ hp 72 b ≤ 50) ∧ (0 ≤ hp 73 b ∧ hp 73 b ≤ 1000)
def qb_iH (hp : qb_H) : Prop := (∀ s : Int, 0 ≤ s → s < 4 → hp 55 s = hp 77 s ∧ hp 56 s = hp 78 s ∧ (0 ≤ hp 78 s ∧ hp 78 s ≤ 20) ∧ (0 ≤ hp 77 s ∧ hp 77 s ≤ 400)) ∧ ∀ j : Int, 1764 ≤ j → hp 59 j = 0
theorem fc_cg {ka da va ta kb db vb tb : Int → Int} {n : Nat} (h : ∀ k : Int, 0 ≤ k → k < n → ka k = kb k ∧ da k = db k ∧ va k = vb k ∧ ta k = tb k) (kind day known wo : Int) : qb_fc ka da va ta n kind day known wo = qb_fc kb db vb tb n kind day known wo := by
  have e : qb_lat (fun k => ka k = kind ∧ ta k ≤ known ∧ da k ≤ day) (fun _ => inferInstance) da n = qb_lat (fun k => kb k = kind ∧ tb k ≤ known ∧ db k ≤ day) (fun _ => inferInstance) db n := by
    refine qb_lat_cg _ _ n (fun k hk => ?_) (fun k hk => (h k (by omega) (by omega)).2.1)
    have := h k (by omega) (by omega)
    rw [this.1, this.2.1, this.2.2.2]
  have hr := qb_lat_in (fun k => kb k = kind ∧ tb k ≤ known ∧ db k ≤ day) (fun _ => inferInstance) db n
  unfold qb_fc
  rw [e]
  split
  · rfl
  · exact (h _ (by omega) (by omega)).2.2.1
theorem fc_in {ka da va ta : Int → Int} {n : Nat} {lo hi wo : Int} (h : ∀ k : Int, 0 ≤ k → k < n → lo ≤ va k ∧ va k ≤ hi) (hw : lo ≤ wo ∧ wo ≤ hi) (kind day known : Int) : lo ≤ qb_fc ka da va ta n kind day known wo ∧ qb_fc ka da va ta n kind day known wo ≤ hi := by
  have hr := qb_lat_in (fun k => ka k = kind ∧ ta k ≤ known ∧ da k ≤ day) (fun _ => inferInstance) da n
  unfold qb_fc
  split
  · exact hw
  · exact h _ (by omega) (by omega)
theorem iF_eq {hp : qb_H} (h : qb_iF hp) (day known : Int) : v_fc_find_f 0 day known 10 hp = v_m_freeAt day known hp ∧ (1 ≤ v_m_freeAt day known hp ∧ v_m_freeAt day known hp ≤ 1000) := by
  obtain ⟨h1, h2, h3⟩ := h
  unfold v_fc_find_f v_m_freeAt
  rw [h1]
  refine ⟨fc_cg (fun k k0 k1 => ?_) _ _ _ _, fc_in (fun k k0 k1 => ?_) (by decide) _ _ _⟩
  · have := h3 k k0 (by omega)
    exact ⟨this.1, this.2.1, this.2.2.1, this.2.2.2.1⟩
  · exact (h3 k k0 (by omega)).2.2.2.2
theorem iP_eq {hp : qb_H} (h : qb_iP hp) (g day known : Int) : v_fc_find_p g day known 0 hp = v_m_priceAt g day known hp ∧ (0 ≤ v_m_priceAt g day known hp ∧ v_m_priceAt g day known hp ≤ 1000) := by
  obtain ⟨h1, h2, h3⟩ := h
  unfold v_fc_find_p v_m_priceAt
  rw [h1]
  refine ⟨fc_cg (fun k k0 k1 => ?_) _ _ _ _, fc_in (fun k k0 k1 => ?_) (by decide) _ _ _⟩
  · have := h3 k k0 (by omega)
    exact ⟨this.1, this.2.1, this.2.2.1, this.2.2.2.1⟩
  · exact (h3 k k0 (by omega)).2.2.2.2
theorem iF_kS {hp hq : qb_H} (h : qb_iF hp) (hk : kS hp hq) : qb_iF hq := by
  unfold qb_iF at h ⊢
  rw [hk.1 40 (by decide) (by decide) (by decide) (by decide), hk.1 41 (by decide) (by decide) (by decide) (by decide), hk.1 42 (by decide) (by decide) (by decide) (by decide), hk.1 43 (by decide) (by decide) (by decide) (by decide), hk.1 44 (by decide) (by decide) (by decide) (by decide), hk.1 74 (by decide) (by decide) (by decide) (by decide), hk.1 75 (by decide) (by decide) (by decide) (by decide), hk.1 76 (by decide) (by decide) (by decide) (by decide), hk.2.1 18 (by decide)]
  exact h
theorem iP_kS {hp hq : qb_H} (h : qb_iP hp) (hk : kS hp hq) : qb_iP hq := by
  unfold qb_iP at h ⊢
  rw [hk.1 45 (by decide) (by decide) (by decide) (by decide), hk.1 46 (by decide) (by decide) (by decide) (by decide), hk.1 47 (by decide) (by decide) (by decide) (by decide), hk.1 48 (by decide) (by decide) (by decide) (by decide), hk.1 49 (by decide) (by decide) (by decide) (by decide), hk.1 79 (by decide) (by decide) (by decide) (by decide), hk.1 80 (by decide) (by decide) (by decide) (by decide), hk.1 81 (by decide) (by decide) (by decide) (by decide), hk.1 82 (by decide) (by decide) (by decide) (by decide), hk.2.1 24 (by decide)]
  exact h
theorem iE_kS {hp hq : qb_H} (h : qb_iE hp) (hk : kS hp hq) : qb_iE hq := by
  unfold qb_iE at h ⊢
  rw [hk.1 37 (by decide) (by decide) (by decide) (by decide), hk.1 38 (by decide) (by decide) (by decide) (by decide), hk.1 39 (by decide) (by decide) (by decide) (by decide), hk.1 71 (by decide) (by decide) (by decide) (by decide), hk.1 72 (by decide) (by decide) (by decide) (by decide), hk.1 73 (by decide) (by decide) (by decide) (by decide)]
  exact h
theorem iH_kS {hp hq : qb_H} (h : qb_iH hp) (hk : kS hp hq) : qb_iH hq := by
  unfold qb_iH at h ⊢
  rw [hk.1 55 (by decide) (by decide) (by decide) (by decide), hk.1 56 (by decide) (by decide) (by decide) (by decide), hk.1 77 (by decide) (by decide) (by decide) (by decide), hk.1 78 (by decide) (by decide) (by decide) (by decide)]
  exact ⟨h.1, fun j hj => by rw [hk.2.2.2.2 j hj]; exact h.2 j hj⟩
theorem s_q_freePrice {hp : qb_H} (h : qb_iF hp) (day known : Int) {K : Int → qb_H → Prop} (hK : K (v_m_freeAt day known hp) hp) : c_q_freePrice day known hp K := by
  refine b_q_freePrice (s_fc_find_f 0 day known 10 hp _ ?_ ?_)
  · unfold g_fc_find_f; rw [h.1]; exact h.2.1
  · rw [(iF_eq h day known).1]; exact hK
theorem freeOn_ok (day known : Int) {hp : qb_H} (h : qb_iF hp) {K : Int → Int → qb_H → Prop} (hK : ∀ v : Int, K v v hp) : c_q_freeOn day known hp (fun v hp1 => c_m_freeOn day known hp1 (fun w hp2 => K v w hp2)) := by
  refine b_q_freeOn ⟨fun c => b_m_freeOn ⟨fun _ => hK _, fun c2 => absurd c c2⟩, fun c => ⟨fun d => b_m_freeOn ⟨fun c2 => absurd c2 c, fun _ => ⟨fun _ => hK _, fun d2 => absurd d d2⟩⟩, fun d => ?_⟩⟩
  refine s_q_freePrice h day known (b_m_freeOn ⟨fun c2 => absurd c2 c, fun _ => ⟨fun d2 => absurd d2 d, fun _ => s_m_freeAt day known hp _ h.2.1 (hK _)⟩⟩)
theorem priceOn_ok (g day known : Int) {hp : qb_H} (h : qb_iP hp) {K : Int → Int → qb_H → Prop} (hK : ∀ v : Int, K v v hp) : c_q_priceOn g day known hp (fun v hp1 => c_m_priceOn g day known hp1 (fun w hp2 => K v w hp2)) := by
  refine b_q_priceOn ⟨fun c => b_m_priceOn ⟨fun _ => hK _, fun c2 => absurd c c2⟩, fun c => ⟨fun d => b_m_priceOn ⟨fun c2 => absurd c2 c, fun _ => ⟨fun _ => hK _, fun d2 => absurd d d2⟩⟩, fun d => ⟨fun f => b_m_priceOn ⟨fun c2 => absurd c2 c, fun _ => ⟨fun c2 => absurd c2 d, fun _ => ⟨fun _ => hK _, fun d2 => absurd f d2⟩⟩⟩, fun f => ?_⟩⟩⟩
  refine s_fc_find_p g day known 0 hp _ ?_ (b_m_priceOn ⟨fun c2 => absurd c2 c, fun _ => ⟨fun d2 => absurd d2 d, fun _ => ⟨fun d2 => absurd d2 f, fun _ => s_m_priceAt g day known hp _ h.2.1 ?_⟩⟩⟩)
  · unfold g_fc_find_p; rw [h.1]; exact h.2.1
  · rw [(iP_eq h g day known).1]; exact hK _
