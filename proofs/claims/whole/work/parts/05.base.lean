/-! THE PLAIN MACHINE: whole numbers (Int), cells by number, one judgement qb_R for the whole world. Each row of the kit that this class needs is turned into a row over qb_R. -/
-- values: an int, a cell (numbers from 1000 on: cells that nobody writes), a long
abbrev qb_V : Type := Int ⊕ (Nat ⊕ Int)
-- what the cells hold: cell, place
abbrev qb_H : Type := Nat → Int → Int
-- the cells' kinds: an object (class, its fields: a number, null or a cell), an int array of a length
abbrev qb_Sh : Type := List ((Nat × List (Option (Option Nat))) ⊕ Nat)
-- a method: name, bytes, locals, answer; frames, words; cells and slots that it makes
abbrev qb_M : Type := MethodName × ByteArray × Nat × Option FieldType × (Nat × Nat) × (Nat × Nat)
abbrev qb_nm (M : qb_M) : MethodName := M.1
abbrev qb_by (M : qb_M) : ByteArray := M.2.1
abbrev qb_ml (M : qb_M) : Nat := M.2.2.1
abbrev qb_rt (M : qb_M) : Option FieldType := M.2.2.2.1
abbrev qb_fr (M : qb_M) : Nat := M.2.2.2.2.1.1
abbrev qb_lo (M : qb_M) : Nat := M.2.2.2.2.1.2
abbrev qb_mc (M : qb_M) : Nat := M.2.2.2.2.2.1
abbrev qb_ms (M : qb_M) : Nat := M.2.2.2.2.2.2
abbrev qb_rm (M : qb_M) : Room := { frames := qb_fr M, cells := qb_mc M, slots := qb_ms M, locals := qb_lo M }
def qb_in (x : Int) : Prop := -2147483648 ≤ x ∧ x ≤ 2147483647
def qb_inL (x : Int) : Prop := -9223372036854775808 ≤ x ∧ x ≤ 9223372036854775807
def qb_tv (ad : Nat → Nat) : qb_V → Value
  | .inl i => .int (Int32.ofInt i)
  | .inr (.inl c) => .ref (ad c)
  | .inr (.inr j) => .long (Int64.ofInt j)
def qb_ok (n : Nat) : qb_V → Prop
  | .inl i => qb_in i
  | .inr (.inl c) => c < n ∨ 1000 ≤ c
  | .inr (.inr j) => qb_inL j
theorem qb_toI {x : Int} (h : qb_in x) : (Int32.ofInt x).toInt = x := Int32.toInt_ofInt_of_le (by have := h.1; simpa using this) (by have := h.2; omega)
theorem qb_toL {x : Int} (h : qb_inL x) : (Int64.ofInt x).toInt = x := Int64.toInt_ofInt_of_le (by have := h.1; simpa using this) (by have := h.2; omega)
theorem qb_eqI {x y : Int} (hx : qb_in x) (hy : qb_in y) : Int32.ofInt x = Int32.ofInt y ↔ x = y := by
  rw [← Int32.toInt_inj, qb_toI hx, qb_toI hy]
theorem qb_ltI {x y : Int} (hx : qb_in x) (hy : qb_in y) : Int32.ofInt x < Int32.ofInt y ↔ x < y := by
  rw [Int32.lt_iff_toInt_lt, qb_toI hx, qb_toI hy]
theorem qb_leI {x y : Int} (hx : qb_in x) (hy : qb_in y) : Int32.ofInt x ≤ Int32.ofInt y ↔ x ≤ y := by
  rw [Int32.le_iff_toInt_le, qb_toI hx, qb_toI hy]
theorem qb_0I : (0 : Int32) = Int32.ofInt 0 := rfl
theorem qb_in0 : qb_in 0 := ⟨by decide, by decide⟩
/-- the fields of an object -/
def qb_fv (ad : Nat → Nat) (f : Int → Int) (k : Nat) : Option (Option Nat) → Value
  | none => .int (Int32.ofInt (f k))
  | some none => .null
  | some (some c) => .ref (ad c)
def qb_fs (ad : Nat → Nat) (f : Int → Int) (sl : List (Option (Option Nat))) : List Value := sl.mapIdx (qb_fv ad f)
def qb_ce (ad : Nat → Nat) (cI : ClassId) (hp : qb_H) (k : Nat) (d : (Nat × List (Option (Option Nat))) ⊕ Nat) : Nat × va_E := (ad k, match d with
  | .inl o => .inr (o.1, qb_fs ad (hp k) o.2)
  | .inr n => .inl (cI, n, .inl (fun j => Int32.ofInt (hp k j))))
def qb_ws (ad : Nat → Nat) (cI : ClassId) (hp : qb_H) (sh : qb_Sh) : va_W := sh.mapIdx (qb_ce ad cI hp)
theorem qb_ws_at {ad : Nat → Nat} {cI : ClassId} {hp : qb_H} {sh : qb_Sh} {k : Nat} {d : (Nat × List (Option (Option Nat))) ⊕ Nat} (h : sh[k]? = some d) : (qb_ws ad cI hp sh)[k]? = some (qb_ce ad cI hp k d) := by
  simp [qb_ws, List.getElem?_mapIdx, h]
theorem qb_fs_at {ad : Nat → Nat} {f : Int → Int} {sl : List (Option (Option Nat))} {k : Nat} {d : Option (Option Nat)} (h : sl[k]? = some d) : (qb_fs ad f sl)[k]? = some (qb_fv ad f k d) := by
  simp [qb_fs, List.getElem?_mapIdx, h]
-- one place of one cell written
def qb_st (hp : qb_H) (c : Nat) (i v : Int) : qb_H := fun c' => if c' = c then (fun j => if j = i then v else hp c j) else hp c'
theorem qb_st_in {hp : qb_H} {c : Nat} {i v : Int} (h : ∀ c i, qb_in (hp c i)) (hv : qb_in v) : ∀ c' i', qb_in (qb_st hp c i v c' i') := by
  intro c' i'
  unfold qb_st
  by_cases e : c' = c
  · subst e
    simp only [if_true]
    split
    · exact hv
    · exact h _ _
  · rw [if_neg e]; exact h _ _
theorem qb_st_ne {hp : qb_H} {c c' : Nat} {i v : Int} (h : c' ≠ c) : qb_st hp c i v c' = hp c' := if_neg h
/-- the classes -/
def qb_wf (sh : qb_Sh) : Prop := sh.length ≤ 999 ∧ ∀ (k ci : Nat) (sl : List (Option (Option Nat))), sh[k]? = some (.inl (ci, sl)) → ∀ (j c : Nat), sl[j]? = some (some (some c)) → c < sh.length ∨ 1000 ≤ c
theorem qb_fs_ad {ad ad' : Nat → Nat} {n : Nat} {f : Int → Int} {sl : List (Option (Option Nat))} (hs : ∀ (j c : Nat), sl[j]? = some (some (some c)) → c < n ∨ 1000 ≤ c) (hE : ∀ k, (k < n ∨ 1000 ≤ k) → ad' k = ad k) : qb_fs ad' f sl = qb_fs ad f sl := by
  apply List.ext_getElem?
  intro j
  simp only [qb_fs, List.getElem?_mapIdx]
  rcases h : sl[j]? with _ | (_ | (_ | c))
  · rfl
  · rfl
  · rfl
  · show some (Value.ref (ad' c)) = some (Value.ref (ad c))
    rw [hE c (hs j c h)]
theorem qb_ws_push {ad ad' : Nat → Nat} {cI : ClassId} {hp hp' : qb_H} {sh : qb_Sh} {d : (Nat × List (Option (Option Nat))) ⊕ Nat} (hw : qb_wf sh) (hE : ∀ k, (k < sh.length ∨ 1000 ≤ k) → ad' k = ad k) (hh : ∀ k, k ≠ sh.length → hp' k = hp k) : qb_ws ad' cI hp' (sh ++ [d]) = qb_ws ad cI hp sh ++ [qb_ce ad' cI hp' sh.length d] := by
  apply List.ext_getElem?
  intro j
  have e0 : (qb_ws ad cI hp sh).length = sh.length := by simp [qb_ws]
  rcases Nat.lt_trichotomy j sh.length with h | h | h
  · rw [List.getElem?_append_left (by rw [e0]; exact h)]
    simp only [qb_ws, List.getElem?_mapIdx]
    rw [List.getElem?_append_left h]
    rcases hj : sh[j]? with _ | (⟨ci, sl⟩ | n)
    · rfl
    · show some (qb_ce ad' cI hp' j _) = some (qb_ce ad cI hp j _)
      simp only [qb_ce]
      rw [hE j (Or.inl h), hh j (Nat.ne_of_lt h), qb_fs_ad (hw.2 j ci sl hj) hE]
    · show some (qb_ce ad' cI hp' j _) = some (qb_ce ad cI hp j _)
      simp only [qb_ce]
      rw [hE j (Or.inl h), hh j (Nat.ne_of_lt h)]
  · subst h
    rw [List.getElem?_append_right (by rw [e0]; exact Nat.le_refl _), e0, Nat.sub_self]
    simp [qb_ws]
  · rw [List.getElem?_append_right (by rw [e0]; exact Nat.le_of_lt h), e0]
    simp only [qb_ws, List.getElem?_mapIdx]
    rw [List.getElem?_append_right (Nat.le_of_lt h)]
    obtain ⟨z, hz⟩ : ∃ z, j - sh.length = z + 1 := ⟨j - sh.length - 1, by omega⟩
    rw [hz]
    rfl
theorem qb_fs_put {ad : Nat → Nat} {f : Int → Int} {sl : List (Option (Option Nat))} {k : Nat} {x : Int} (hk : sl[k]? = some none) : (qb_fs ad f sl).set k (.int (Int32.ofInt x)) = qb_fs ad (fun j => if j = (k : Int) then x else f j) sl := by
  have hl : k < sl.length := (List.getElem?_eq_some_iff.mp hk).1
  apply List.ext_getElem?
  intro j
  simp only [qb_fs, List.getElem?_set, List.getElem?_mapIdx, List.length_mapIdx]
  by_cases e : k = j
  · subst e
    rw [if_pos rfl, if_pos hl, hk]
    simp [qb_fv]
  · rw [if_neg e]
    rcases hj : sl[j]? with _ | (_ | (_ | c))
    · rfl
    · show some (Value.int (Int32.ofInt (f j))) = some (Value.int (Int32.ofInt (if (j : Int) = (k : Int) then x else f j)))
      rw [if_neg (by omega)]
    · rfl
    · rfl
theorem qb_fs_putR {ad : Nat → Nat} {f : Int → Int} {sl : List (Option (Option Nat))} {k : Nat} {c : Nat} (hk : k < sl.length) : (qb_fs ad f sl).set k (.ref (ad c)) = qb_fs ad f (sl.set k (some (some c))) := by
  apply List.ext_getElem?
  intro j
  simp only [qb_fs, List.getElem?_set, List.getElem?_mapIdx, List.length_mapIdx]
  by_cases e : k = j
  · subst e
    rw [if_pos rfl, if_pos hk]
    simp [hk, qb_fv]
  · rw [if_neg e, if_neg e]
theorem qb_ws_put {ad : Nat → Nat} {cI : ClassId} {hp : qb_H} {sh : qb_Sh} {c k ci : Nat} {sl : List (Option (Option Nat))} {x : Int} (hs : sh[c]? = some (.inl (ci, sl))) (hk : sl[k]? = some none) : (qb_ws ad cI hp sh).set c (ad c, .inr (ci, (qb_fs ad (hp c) sl).set k (.int (Int32.ofInt x)))) = qb_ws ad cI (qb_st hp c k x) sh := by
  have hl : c < sh.length := (List.getElem?_eq_some_iff.mp hs).1
  apply List.ext_getElem?
  intro j
  simp only [qb_ws, List.getElem?_set, List.getElem?_mapIdx, List.length_mapIdx]
  by_cases e : c = j
  · subst e
    rw [if_pos rfl, if_pos hl, hs, qb_fs_put hk]
    simp [qb_ce, qb_st]
  · rw [if_neg e]
    rcases hj : sh[j]? with _ | (⟨ci', sl'⟩ | n)
    · rfl
    · show some (qb_ce _ _ _ _ _) = some (qb_ce _ _ _ _ _)
      simp only [qb_ce, qb_st_ne (Ne.symm e)]
    · show some (qb_ce _ _ _ _ _) = some (qb_ce _ _ _ _ _)
      simp only [qb_ce, qb_st_ne (Ne.symm e)]
theorem qb_ws_putR {ad : Nat → Nat} {cI : ClassId} {hp : qb_H} {sh : qb_Sh} {c k ci b : Nat} {sl : List (Option (Option Nat))} (hs : sh[c]? = some (.inl (ci, sl))) (hk : k < sl.length) : (qb_ws ad cI hp sh).set c (ad c, .inr (ci, (qb_fs ad (hp c) sl).set k (.ref (ad b)))) = qb_ws ad cI hp (sh.set c (.inl (ci, sl.set k (some (some b))))) := by
  have hl : c < sh.length := (List.getElem?_eq_some_iff.mp hs).1
  apply List.ext_getElem?
  intro j
  simp only [qb_ws, List.getElem?_set, List.getElem?_mapIdx, List.length_mapIdx]
  by_cases e : c = j
  · subst e
    rw [if_pos rfl, if_pos hl, qb_fs_putR hk, if_pos rfl, if_pos hl]
    simp [qb_ce]
  · rw [if_neg e, if_neg e]
theorem qb_ws_sto {ad : Nat → Nat} {cI : ClassId} {hp : qb_H} {sh : qb_Sh} {c n : Nat} {i x : Int} (hs : sh[c]? = some (.inr n)) (h0 : 0 ≤ i) (hi : qb_in i) : (qb_ws ad cI hp sh).set c (ad c, .inl (cI, n, .inl (upd (fun j => Int32.ofInt (hp c j)) (Int32.ofInt i).toNatClampNeg (Int32.ofInt x)))) = qb_ws ad cI (qb_st hp c i x) sh := by
  have hl : c < sh.length := (List.getElem?_eq_some_iff.mp hs).1
  have hi2 : (((Int32.ofInt i).toNatClampNeg : Nat) : Int) = i := by
    show (((Int32.ofInt i).toInt.toNat : Nat) : Int) = i
    rw [qb_toI hi]; omega
  apply List.ext_getElem?
  intro j
  simp only [qb_ws, List.getElem?_set, List.getElem?_mapIdx, List.length_mapIdx]
  by_cases e : c = j
  · subst e
    rw [if_pos rfl, if_pos hl, hs]
    simp only [Option.map_some, qb_ce, Option.some.injEq, Prod.mk.injEq, true_and, Sum.inl.injEq]
    funext q
    simp only [upd, qb_st, if_true]
    by_cases hq : q = (Int32.ofInt i).toNatClampNeg
    · rw [if_pos hq, if_pos (by rw [hq]; exact hi2)]
    · rw [if_neg hq, if_neg (by omega)]
  · rw [if_neg e]
    rcases hj : sh[j]? with _ | (⟨ci', sl'⟩ | n')
    · rfl
    · show some (qb_ce _ _ _ _ _) = some (qb_ce _ _ _ _ _)
      simp only [qb_ce, qb_st_ne (Ne.symm e)]
    · show some (qb_ce _ _ _ _ _) = some (qb_ce _ _ _ _ _)
      simp only [qb_ce, qb_st_ne (Ne.symm e)]
/-! the words that every method keeps; the context; the judgement -/
def qb_wg : List Cond := lw_tbl.filter goodWord
theorem qb_wg_in {w : Cond} (i : Nat) (h : lw_tbl[i]? = some w) (hg : goodWord w = true) : w ∈ qb_wg := List.mem_filter.mpr ⟨List.mem_of_getElem? h, hg⟩
theorem qb_wg_pos {ws : List Cond} (ps : List Nat) (h : ws = ps.filterMap (fun i => lw_tbl[i]?)) (hg : ws.all goodWord = true) : ∀ w ∈ ws, w ∈ qb_wg := by
  intro w hw
  have h1 := List.all_eq_true.mp hg w hw
  rw [h] at hw
  obtain ⟨i, -, hi⟩ := List.mem_filterMap.mp hw
  exact qb_wg_in i hi h1
theorem qb_wg_good : GoodIn qb_wg qb_wg := fun w hw => ⟨hw, good_of_word (List.mem_filter.mp hw).2⟩
theorem qb_wg_code {w : Cond} (hw : w ∈ qb_wg) : GoodIn qb_wg (w :: qb_wg) := fun v hv => (List.mem_cons.mp hv).elim (fun e => e ▸ qb_wg_good w hw) (qb_wg_good v)
def qb_low (j : Nat) : Int := [1, 100, 1, 0, 500, 0, 0].getD j 0
def qb_high (j : Nat) : Int := [72, 1500, 100, 50, 1500, 100, 100].getD j 0
-- the cells from 1000 on: the two tables of rules, the script; what the script holds (cell 1002), how long it is (cell 1003, place 0)
abbrev qb_S : Type := (Nat × Nat × Nat) × (Int → Int) × (Int → Int)
def qb_Sc (t : Nat) (x2 x3 : Int → Int) (A : Nat → Prop) (U : State) (H : Heap) : Prop := ∃ cell : Cell, H[t]? = some cell ∧ U.isArrayOf cell .int ∧ cell.vm ≠ .unknown ∧ (cell.slots.size : Int) = x3 0 ∧ (∀ j : Nat, j < cell.slots.size → cell.slots[j]? = some (.int (Int32.ofInt (x2 j)))) ∧ ¬ A t
def qb_Tb (t : Nat) (nm : String) (f : Nat → Int) (A : Nat → Prop) (U : State) (H : Heap) : Prop := va_Z RX10 nm "[I" (.ref t) A U H ∧ va_T .int t 7 (fun j => .int (Int32.ofInt (f j))) A U H
def qb_St (S : qb_S) (A : Nat → Prop) (U : State) (H : Heap) : Prop := qb_Tb S.1.1 "RULE_LOWEST" qb_low A U H ∧ qb_Tb S.1.2.1 "RULE_HIGHEST" qb_high A U H ∧ qb_Sc S.1.2.2 S.2.1 S.2.2 A U H
theorem qb_St.go {S : qb_S} {A B : Nat → Prop} {u U : State} {H H1 : Heap} (h : qb_St S A u H) (hvm : u.vm.Alike U.vm) (hq : ∀ a : Nat, a < H.size → ¬ A a → H1[a]? = H[a]?) (hB : ∀ a : Nat, a < H.size → ¬ A a → ¬ B a) : qb_St S B U H1 := by
  have tb : ∀ (t : Nat) (nm : String) (f : Nat → Int), qb_Tb t nm f A u H → qb_Tb t nm f B U H1 := by
    rintro t nm f ⟨⟨cf, kf, fi, fd, a, ce, h1, h2, h3, h4, h5, h6, h7, h8⟩, ⟨ce2, g1, g2, g3, g4, g5, g6, g7⟩⟩
    refine ⟨?_, ?_⟩
    · refine va_Z.moved hvm ⟨cf, kf, fi, fd, a, ce, h1, h2, h3, h4, ?_, h6, h7, ?_⟩
      · rw [hq a (Array.getElem?_eq_some_iff.mp h5).1 h8]; exact h5
      · exact hB a (Array.getElem?_eq_some_iff.mp h5).1 h8
    · refine va_T.moved hvm ⟨ce2, ?_, g2, g3, g4, g5, g6, ?_⟩
      · rw [hq t (Array.getElem?_eq_some_iff.mp g1).1 g7]; exact g1
      · exact hB t (Array.getElem?_eq_some_iff.mp g1).1 g7
  obtain ⟨h1, h2, ⟨ce, g1, g2, g3, g4, g5, g6⟩⟩ := h
  refine ⟨tb _ _ _ h1, tb _ _ _ h2, ce, ?_, State.isArrayOf_alike hvm g2, g3, g4, g5, ?_⟩
  · rw [hq _ (Array.getElem?_eq_some_iff.mp g1).1 g6]; exact g1
  · exact hB _ (Array.getElem?_eq_some_iff.mp g1).1 g6
abbrev qb_n1 : Cond := .methodLinkNest "QuayBrands" 36 ⟨"QuayBrands$Cask", "<init>", "()V"⟩ "QuayBrands"
abbrev qb_n2 : Cond := .methodLinkNest "QuayBrands$Acts" 30 ⟨"QuayBrands", "within", "(III)Z"⟩ "QuayBrands"
def qb_nest (U : State) : Prop := va_Nw qb_n1 U ∧ va_Nw qb_n2 U
def qb_Cx (M : qb_M) (p : Program) (s : State) (m : MethodId) (args : Array Value) (meth : Method) (c : Code) (D : va_G) (cI : ClassId) (S : qb_S) (A : Nat → Prop) : Prop :=
  p.tables.exec = Jvm.exec ∧ c.code = qb_by M ∧ c.maxLocals = qb_ml M ∧ meth.sig.returnType = qb_rt M ∧ meth.locks = false ∧ meth.name = (qb_nm M).name ∧ s.vm.findClass (qb_nm M).cls = some m.cls ∧ (∀ w ∈ qb_wg, w.before args s = true) ∧ va_K D vwCl [(cI, .int)] s ∧ qb_nest s ∧ (∀ q, s.heap.size ≤ q → A q) ∧ qb_St S A s s.heap
def qb_Wd (D : va_G) (cI : ClassId) (ad : Nat → Nat) (hp : qb_H) (sh : qb_Sh) (A : Nat → Prop) (H : Heap) : Prop :=
  va_P D vwCl (qb_ws ad cI hp sh) H ∧ va_D A (qb_ws ad cI hp sh) ∧ (∀ c i, qb_in (hp c i)) ∧ qb_wf sh
def qb_L (ad : Nat → Nat) (n nL : Nat) (ls : Array Slot) (L : List (Option qb_V)) : Prop := ls.size = nL ∧ lv_wf ls ∧ ∀ (i : Nat) (v : qb_V), L[i]? = some (some v) → qb_ok n v ∧ ls[i]? = some (.val (qb_tv ad v))
def qb_N (S : qb_S) (n0 : Nat) (ad0 ad : Nat → Nat) (hp : qb_H) (sh : qb_Sh) : Prop := ad 1000 = S.1.1 ∧ ad 1001 = S.1.2.1 ∧ ad 1002 = S.1.2.2 ∧ hp 1002 = S.2.1 ∧ hp 1003 = S.2.2 ∧ n0 ≤ sh.length ∧ ∀ k, (k < n0 ∨ 1000 ≤ k) → ad k = ad0 k
def qb_Q (D : va_G) (cI : ClassId) (S : qb_S) (n0 : Nat) (ad0 : Nat → Nat) (A : Nat → Prop) (Q : Option qb_V → qb_H → qb_Sh → Prop) : Array Value → State → Outcome → State → Prop := fun _ st oc t =>
  (∃ (r : Option qb_V) (hp : qb_H) (sh : qb_Sh) (ad : Nat → Nat), oc = .returned (r.map (qb_tv ad)) ∧ Q r hp sh ∧ (∀ v, r = some v → qb_ok sh.length v) ∧ qb_Wd D cI ad hp sh A t.heap ∧ qb_N S n0 ad0 ad hp sh) ∧ va_F A st t
/-- from here on the method M comes to its end, and the end has Q -/
def qb_R (M : qb_M) (cs ss : Nat) (sh : qb_Sh) (pc : Nat) (L : List (Option qb_V)) (st : List qb_V) (hp : qb_H) (Q : Option qb_V → qb_H → qb_Sh → Prop) : Prop :=
  ∀ (p : Program) (l : Launch) (e : Env) (s : State) (m : MethodId) (args : Array Value) (below : List Frame) (meth : Method) (c : Code) (D : va_G) (cI : ClassId) (S : qb_S) (n0 : Nat) (ad0 ad : Nat → Nat) (A : Nat → Prop) (H : Heap) (locs : List Loc) (ls : Array Slot),
    qb_Cx M p s m args meth c D cI S A → qb_Wd D cI ad hp sh A H → va_S A s.heap H locs → qb_L ad sh.length (qb_ml M) ls L → (∀ v ∈ st, qb_ok sh.length v) → qb_N S n0 ad0 ad hp sh →
    W p l e (qb_rm M) s m args below meth c H locs cs ss (MQ below (qb_Q D cI S n0 ad0 A Q) args s (qb_mc M) (qb_ms M) A) (F0 m pc ls (st.map (qb_tv ad)))
theorem qb_st2 {n : Nat} {a b : qb_V} {st : List qb_V} (h : ∀ v ∈ a :: b :: st, qb_ok n v) : qb_ok n a ∧ qb_ok n b ∧ ∀ v ∈ st, qb_ok n v := ⟨h _ List.mem_cons_self, h _ (List.mem_cons_of_mem _ List.mem_cons_self), fun v hv => h v (List.mem_cons_of_mem _ (List.mem_cons_of_mem _ hv))⟩
theorem qb_st1 {n : Nat} {a : qb_V} {st : List qb_V} (h : ∀ v ∈ a :: st, qb_ok n v) : qb_ok n a ∧ ∀ v ∈ st, qb_ok n v := ⟨h _ List.mem_cons_self, fun v hv => h v (List.mem_cons_of_mem _ hv)⟩
theorem qb_stc {n : Nat} {a : qb_V} {st : List qb_V} (ha : qb_ok n a) (h : ∀ v ∈ st, qb_ok n v) : ∀ v ∈ a :: st, qb_ok n v := List.forall_mem_cons.mpr ⟨ha, h⟩
/-- the locals as the kit lists them -/
def qb_lv (ad : Nat → Nat) (L : List (Option qb_V)) : List (Nat × Value) := (L.mapIdx (fun i v => v.map (fun w => (i, qb_tv ad w)))).filterMap id
theorem qb_lv_mem {ad : Nat → Nat} {L : List (Option qb_V)} {q : Nat × Value} : q ∈ qb_lv ad L ↔ ∃ v, L[q.1]? = some (some v) ∧ q.2 = qb_tv ad v := by
  unfold qb_lv
  rw [List.mem_filterMap]
  constructor
  · rintro ⟨o, ho, h⟩
    obtain ⟨i, hi⟩ := List.getElem?_of_mem ho
    rw [List.getElem?_mapIdx] at hi
    rcases hL : L[i]? with _ | w
    · rw [hL] at hi; cases hi
    · rw [hL] at hi
      simp only [Option.map_some, Option.some.injEq] at hi
      subst hi
      rcases w with _ | w
      · cases h
      · simp only [Option.map_some, id, Option.some.injEq] at h
        subst h
        exact ⟨w, hL, rfl⟩
  · rintro ⟨v, hv, he⟩
    refine ⟨some q, ?_, rfl⟩
    apply List.mem_of_getElem? (i := q.1)
    rw [List.getElem?_mapIdx, hv]
    simp only [Option.map_some, ← he]
theorem qb_L.has {ad : Nat → Nat} {n nL : Nat} {ls : Array Slot} {L : List (Option qb_V)} (h : qb_L ad n nL ls L) : lv_has ls nL (qb_lv ad L) := by
  refine ⟨h.1, h.2.1, fun q hq => ?_⟩
  obtain ⟨v, h1, h2⟩ := qb_lv_mem.mp hq
  rw [h2]
  exact (h.2.2 q.1 v h1).2
/-- a word of one slot is stored: what lies ahead of it is no long -/
def qb_sto (L : List (Option qb_V)) (i : Nat) (v : qb_V) : List (Option qb_V) := L.set i (some v)
def qb_noL (L : List (Option qb_V)) (i : Nat) : Prop := ∀ j x, L[j]? = some (some (.inr (.inr x))) → j + 1 ≠ i
def qb_nl (L : List (Option qb_V)) (i : Nat) : Bool := match i with
  | 0 => true
  | k + 1 => match L[k]? with
    | some (some (.inr (.inr _))) => false
    | _ => true
theorem qb_nl_ok {L : List (Option qb_V)} {i : Nat} (h : qb_nl L i = true) : qb_noL L i := by
  intro j x hj e
  subst e
  simp [qb_nl, hj] at h
theorem qb_L.st1 {ad : Nat → Nat} {n nL : Nat} {ls ls' : Array Slot} {L : List (Option qb_V)} {i : Nat} {v : qb_V} {w : Value} (h : qb_L ad n nL ls L) (hv : qb_ok n v) (hw : qb_tv ad v = w) (hl : qb_noL L i)
    (h' : lv_has ls' nL ((i, w) :: (qb_lv ad L).filter (fun q => !(q.1 == i) && !(q.1 + 1 == i && q.2.category == 2)))) : qb_L ad n nL ls' (qb_sto L i v) := by
  refine ⟨h'.1, h'.2.1, fun j u hj => ?_⟩
  unfold qb_sto at hj
  rw [List.getElem?_set] at hj
  by_cases e : i = j
  · subst e
    rw [if_pos rfl] at hj
    split at hj
    · simp only [Option.some.injEq] at hj
      subst hj
      exact ⟨hv, by rw [hw]; exact h'.2.2 (i, w) List.mem_cons_self⟩
    · cases hj
  · rw [if_neg e] at hj
    refine ⟨(h.2.2 j u hj).1, h'.2.2 (j, qb_tv ad u) (List.mem_cons_of_mem _ (List.mem_filter.mpr ⟨qb_lv_mem.mpr ⟨u, hj, rfl⟩, ?_⟩))⟩
    have e1 : (j == i) = false := by simpa using fun h => e h.symm
    simp only [e1, Bool.not_false, Bool.true_and, Bool.not_eq_true', Bool.and_eq_false_iff, beq_eq_false_iff_ne]
    by_cases e2 : j + 1 = i
    · right
      rcases u with x | x | x
      · exact fun h => by simp [qb_tv, Value.category] at h
      · exact fun h => by simp [qb_tv, Value.category] at h
      · exact absurd e2 (hl j x hj)
    · exact Or.inl e2
theorem qb_L.st2 {ad : Nat → Nat} {n nL : Nat} {ls ls' : Array Slot} {L : List (Option qb_V)} {i : Nat} {v : qb_V} {w : Value} (h : qb_L ad n nL ls L) (hv : qb_ok n v) (hw : qb_tv ad v = w) (hl : qb_noL L i)
    (h' : lv_has ls' nL ((i, w) :: (qb_lv ad L).filter (fun q => !(q.1 == i) && (!(q.1 == i + 1) && !(q.1 + 1 == i && q.2.category == 2))))) : qb_L ad n nL ls' ((L.set i (some v)).set (i + 1) none) := by
  refine ⟨h'.1, h'.2.1, fun j u hj => ?_⟩
  rw [List.getElem?_set] at hj
  by_cases e3 : i + 1 = j
  · rw [if_pos e3] at hj
    split at hj <;> cases hj
  rw [if_neg e3, List.getElem?_set] at hj
  by_cases e : i = j
  · subst e
    rw [if_pos rfl] at hj
    split at hj
    · simp only [Option.some.injEq] at hj
      subst hj
      exact ⟨hv, by rw [hw]; exact h'.2.2 (i, w) List.mem_cons_self⟩
    · cases hj
  · rw [if_neg e] at hj
    refine ⟨(h.2.2 j u hj).1, h'.2.2 (j, qb_tv ad u) (List.mem_cons_of_mem _ (List.mem_filter.mpr ⟨qb_lv_mem.mpr ⟨u, hj, rfl⟩, ?_⟩))⟩
    have e1 : (j == i) = false := by simpa using fun h => e h.symm
    have e4 : (j == i + 1) = false := by simpa using fun h => e3 h.symm
    simp only [e1, e4, Bool.not_false, Bool.true_and, Bool.not_eq_true', Bool.and_eq_false_iff, beq_eq_false_iff_ne]
    by_cases e2 : j + 1 = i
    · right
      rcases u with x | x | x
      · exact fun h => by simp [qb_tv, Value.category] at h
      · exact fun h => by simp [qb_tv, Value.category] at h
      · exact absurd e2 (hl j x hj)
    · exact Or.inl e2
/-- fewer locals known -/
theorem qb_less {M : qb_M} {cs ss : Nat} {sh : qb_Sh} {pc : Nat} {L L' : List (Option qb_V)} {st : List qb_V} {hp : qb_H} {Q : Option qb_V → qb_H → qb_Sh → Prop} (h : ∀ (i : Nat) (v : qb_V), L'[i]? = some (some v) → L[i]? = some (some v)) (k : qb_R M cs ss sh pc L' st hp Q) : qb_R M cs ss sh pc L st hp Q := by
  intro p l e s m args below meth c D cI S n0 ad0 ad A H locs ls hC hW hS hL hst hN
  exact k p l e s m args below meth c D cI S n0 ad0 ad A H locs ls hC hW hS ⟨hL.1, hL.2.1, fun i v hi => hL.2.2 i v (h i v hi)⟩ hst hN
theorem qb_mono {M : qb_M} {cs ss : Nat} {sh : qb_Sh} {pc : Nat} {L : List (Option qb_V)} {st : List qb_V} {hp : qb_H} {Q Q' : Option qb_V → qb_H → qb_Sh → Prop} (h : qb_R M cs ss sh pc L st hp Q) (hq : ∀ r hp' sh', Q r hp' sh' → Q' r hp' sh') : qb_R M cs ss sh pc L st hp Q' := by
  intro p l e s m args below meth c D cI S n0 ad0 ad A H locs ls hC hW hS hL hst hN T hT X
  obtain ⟨t, h1, o, h2, h3, ⟨⟨r, hp', sh', ad', q1, q2, q3⟩, q4⟩, h5⟩ := h p l e s m args below meth c D cI S n0 ad0 ad A H locs ls hC hW hS hL hst hN T hT X
  exact ⟨t, h1, o, h2, h3, ⟨⟨r, hp', sh', ad', q1, hq _ _ _ q2, q3⟩, q4⟩, h5⟩
/-- what a place ahead needs not know of the locals -/
def qb_mask : List Bool → List (Option qb_V) → List (Option qb_V)
  | b :: bs, v :: vs => (if b then v else none) :: qb_mask bs vs
  | _, _ => []
theorem qb_mask_le : ∀ (bs : List Bool) (L : List (Option qb_V)) (i : Nat) (v : qb_V), (qb_mask bs L)[i]? = some (some v) → L[i]? = some (some v) := by
  intro bs
  induction bs with
  | nil => intro L i v h; simp [qb_mask] at h
  | cons b bs ih =>
    intro L i v h
    rcases L with _ | ⟨w, L⟩
    · simp [qb_mask] at h
    · rcases i with _ | i
      · simp only [qb_mask, List.getElem?_cons_zero, Option.some.injEq] at h ⊢
        split at h
        · exact h
        · cases h
      · simp only [qb_mask, List.getElem?_cons_succ] at h ⊢
        exact ih L i v h
theorem qb_cut {M : qb_M} {cs ss : Nat} {sh : qb_Sh} {pc : Nat} {L L' : List (Option qb_V)} {st : List qb_V} {hp : qb_H} {Q : Option qb_V → qb_H → qb_Sh → Prop} (bs : List Bool) (h : qb_mask bs L = L') (k : qb_R M cs ss sh pc L' st hp Q) : qb_R M cs ss sh pc L st hp Q := by
  subst h
  exact qb_less (qb_mask_le bs L) k
abbrev qb_i (x : Int) : Option qb_V := some (.inl x)
abbrev qb_a (c : Nat) : Option qb_V := some (.inr (.inl c))
abbrev qb_l (x : Int) : Option qb_V := some (.inr (.inr x))
theorem qb_rds {hp : qb_H} {c : Nat} {i x : Int} : qb_st hp c i x c i = x := by simp [qb_st]
theorem qb_rdn {hp : qb_H} {c c' : Nat} {i j x v : Int} (h : Nat.beq c c' = false) (k : hp c i = v) : qb_st hp c' j x c i = v := by
  rw [qb_st_ne (Nat.ne_of_beq_eq_false h)]; exact k
theorem qb_rdl {hp : qb_H} {c : Nat} {i j x v : Int} (h : ¬ i = j) (k : hp c i = v) : qb_st hp c j x c i = v := by
  simp [qb_st, h, k]
theorem qb_rdi {hp : qb_H} {c : Nat} {i j x v : Int} (k : hp c i = v) : qb_st hp c j x c i = if i = j then x else v := by
  simp [qb_st, k]
