/-! THE LITTLE MACHINE BESIDE THE MACHINE: values and cells by a list of addresses -/
def mz_zn (j : Nat) : Int32 := match j with
  | 0 => 1
  | 1 => 2
  | 2 => 3
  | 3 => 4
  | 4 => 5
  | 5 => 1
  | 6 => 2
  | _ => 3
def mz_ad (φ : List Nat) (k : Nat) : Nat := φ.getD k 0
def mz_mv (φ : List Nat) : Value → Value
  | .int x => .int x
  | .ref k => .ref (mz_ad φ k)
  | _ => .null
theorem mz_mv_cat (φ : List Nat) (v : Value) : (mz_mv φ v).category = 1 := by cases v <;> rfl
def mz_cell (aI aB : ClassId) (φ : List Nat) : mz_C → va_E
  | .inl a => .inl (if a.1 = 0 then aI else aB, a.2.1, .inl a.2.2)
  | .inr o => .inr (o.1, o.2.map (mz_mv φ))
def mz_ws (aI aB : ClassId) (φ : List Nat) (n : Nat) (h : mz_H) : va_W := (List.range n).map (fun k => (mz_ad φ (k + 2), mz_cell aI aB φ (h (k + 2))))
def mz_clv (m : Nat) : Value → Prop
  | .ref k => k < m
  | _ => True
def mz_clc (m : Nat) : mz_C → Prop
  | .inl _ => True
  | .inr o => ∀ v ∈ o.2, mz_clv m v
def mz_cl (n : Nat) (h : mz_H) : Prop := ∀ k, k < n + 2 → mz_clc (n + 2) (h k)
theorem mz_clv_le {m m' : Nat} (hm : m ≤ m') {v : Value} (h : mz_clv m v) : mz_clv m' v := by
  cases v <;> first | exact trivial | exact Nat.lt_of_lt_of_le h hm
theorem mz_clc_le {m m' : Nat} (hm : m ≤ m') {x : mz_C} (h : mz_clc m x) : mz_clc m' x := by
  cases x with
  | inl a => exact trivial
  | inr o => exact fun v hv => mz_clv_le hm (h v hv)
theorem mz_ad_app {φ ψ : List Nat} {k : Nat} (h : k < φ.length) : mz_ad (φ ++ ψ) k = mz_ad φ k := by
  unfold mz_ad
  rw [List.getD_eq_getElem?_getD, List.getD_eq_getElem?_getD, List.getElem?_append_left h]
theorem mz_mv_app {φ ψ : List Nat} {v : Value} (h : mz_clv φ.length v) : mz_mv (φ ++ ψ) v = mz_mv φ v := by
  cases v <;> first | rfl | exact congrArg Value.ref (mz_ad_app h)
theorem mz_cell_app {aI aB : ClassId} {φ ψ : List Nat} {x : mz_C} (h : mz_clc φ.length x) : mz_cell aI aB (φ ++ ψ) x = mz_cell aI aB φ x := by
  cases x with
  | inl a => rfl
  | inr o =>
    show (Sum.inr (o.1, _) : va_E) = Sum.inr (o.1, _)
    rw [List.map_congr_left fun v hv => mz_mv_app (h v hv)]
theorem mz_ws_get {aI aB : ClassId} {φ : List Nat} {n k : Nat} {h : mz_H} (hk : k < n) : (mz_ws aI aB φ n h)[k]? = some (mz_ad φ (k + 2), mz_cell aI aB φ (h (k + 2))) := by
  unfold mz_ws
  rw [List.getElem?_map, List.getElem?_range hk]
  rfl
theorem mz_ws_len {aI aB : ClassId} {φ : List Nat} {n : Nat} {h : mz_H} : (mz_ws aI aB φ n h).length = n := by simp [mz_ws]
theorem mz_ws_set {aI aB : ClassId} {φ : List Nat} {n k : Nat} {h : mz_H} {x : mz_C} : (mz_ws aI aB φ n h).set k (mz_ad φ (k + 2), mz_cell aI aB φ x) = mz_ws aI aB φ n (mz_up h (k + 2) x) := by
  apply List.ext_getElem?
  intro i
  by_cases hi : i < n
  · rw [mz_ws_get hi]
    by_cases e : k = i
    · subst e
      rw [List.getElem?_set_self (by rw [mz_ws_len]; exact hi)]
      simp [mz_up]
    · rw [List.getElem?_set_ne e, mz_ws_get hi]
      have e3 : mz_up h (k + 2) x (i + 2) = h (i + 2) := if_neg (by omega)
      rw [e3]
  · rw [List.getElem?_eq_none (by rw [List.length_set, mz_ws_len]; omega), List.getElem?_eq_none (by rw [mz_ws_len]; omega)]
theorem mz_ws_push {aI aB : ClassId} {φ : List Nat} {n q : Nat} {h : mz_H} {x : mz_C} (hl : φ.length = n + 2) (hc : mz_cl n h) : mz_ws aI aB φ n h ++ [(q, mz_cell aI aB (φ ++ [q]) x)] = mz_ws aI aB (φ ++ [q]) (n + 1) (mz_up h (n + 2) x) := by
  unfold mz_ws
  rw [List.range_succ, List.map_append]
  congr 1
  · apply List.map_congr_left
    intro k hk
    have hk := List.mem_range.mp hk
    have e : mz_up h (n + 2) x (k + 2) = h (k + 2) := if_neg (by omega)
    have hcl : mz_clc φ.length (h (k + 2)) := by rw [hl]; exact hc (k + 2) (by omega)
    rw [e, mz_ad_app (by omega), mz_cell_app hcl]
  · have e : mz_up h (n + 2) x (n + 2) = x := if_pos rfl
    have e2 : mz_ad (φ ++ [q]) (n + 2) = q := by
      unfold mz_ad
      rw [List.getD_eq_getElem?_getD, List.getElem?_append_right (by omega), ← hl]
      simp
    simp only [List.map_cons, List.map_nil]
    rw [e, e2]
theorem mz_cl_push {n : Nat} {h : mz_H} {x : mz_C} (hc : mz_cl n h) (hx : mz_clc (n + 3) x) : mz_cl (n + 1) (mz_up h (n + 2) x) := by
  intro k hk
  by_cases e : k = n + 2
  · subst e
    have : mz_up h (n + 2) x (n + 2) = x := if_pos rfl
    rw [this]
    exact hx
  · have : mz_up h (n + 2) x k = h k := if_neg e
    rw [this]
    exact mz_clc_le (by omega) (hc k (by omega))
theorem mz_cl_set {n a : Nat} {h : mz_H} {x : mz_C} (hc : mz_cl n h) (hx : mz_clc (n + 2) x) : mz_cl n (mz_up h a x) := by
  intro k hk
  by_cases e : k = a
  · subst e
    have : mz_up h k x k = x := if_pos rfl
    rw [this]
    exact hx
  · have : mz_up h a x k = h k := if_neg e
    rw [this]
    exact hc k hk
theorem mz_dfm {φ : List Nat} {i : Nat} : (mz_df i).map (mz_mv φ) = mz_df i := by
  unfold mz_df
  rw [List.map_map]
  apply List.map_congr_left
  intro k _
  show mz_mv φ (match mz_ty i k with
    | .int => Value.int 0
    | _ => Value.null) = (match mz_ty i k with
    | .int => Value.int 0
    | _ => Value.null)
  generalize mz_ty i k = t
  cases t <;> rfl
theorem mz_dfc {m i : Nat} : mz_clc m (.inr (i, mz_df i)) := by
  intro v hv
  obtain ⟨k, _, rfl⟩ := List.mem_map.mp hv
  split <;> exact trivial
/-! locals -/
def mz_loc (φ : List Nat) (nL : Nat) (L : List (Option Value)) (ls : Array Slot) : Prop := ls.size = nL ∧ lv_wf ls ∧ L.length = nL ∧ ∀ i v, mz_nth L i = some v → ls[i]? = some (.val (mz_mv φ v))
def mz_lv (φ : List Nat) (L : List (Option Value)) : List (Nat × Value) := (List.range L.length).filterMap (fun i => (mz_nth L i).map (fun v => (i, mz_mv φ v)))
theorem mz_nth_lt : ∀ {L : List (Option Value)} {i : Nat} {v : Value}, mz_nth L i = some v → i < L.length
  | [], _, _, h => by cases h
  | _ :: _, 0, _, _ => Nat.succ_pos _
  | _ :: r, k + 1, _, h => Nat.succ_lt_succ (mz_nth_lt (L := r) h)
theorem mz_put_spec : ∀ {L : List (Option Value)} {k : Nat} {v : Value} {L' : List (Option Value)}, mz_put L k v = some L' → k < L.length ∧ L'.length = L.length ∧ mz_nth L' k = some v ∧ ∀ j, j ≠ k → mz_nth L' j = mz_nth L j
  | [], _, _, _, h => by cases h
  | a :: r, 0, v, L', h => by
    have e : some v :: r = L' := Option.some.inj h
    subst e
    refine ⟨Nat.succ_pos _, rfl, rfl, fun j hj => ?_⟩
    cases j with
    | zero => exact absurd rfl hj
    | succ j => rfl
  | a :: r, k + 1, v, L', h => by
    unfold mz_put at h
    cases hp : mz_put r k v with
    | none => rw [hp] at h; cases h
    | some r' =>
      rw [hp] at h
      have e : a :: r' = L' := Option.some.inj h
      subst e
      obtain ⟨h1, h2, h3, h4⟩ := mz_put_spec hp
      refine ⟨Nat.succ_lt_succ h1, congrArg Nat.succ h2, h3, fun j hj => ?_⟩
      cases j with
      | zero => rfl
      | succ j => exact h4 j (fun z => hj (congrArg Nat.succ z))
theorem mz_lv_mem {φ : List Nat} {L : List (Option Value)} {i : Nat} {v : Value} (h : mz_nth L i = some v) : (i, mz_mv φ v) ∈ mz_lv φ L := List.mem_filterMap.mpr ⟨i, List.mem_range.mpr (mz_nth_lt h), by rw [h]; rfl⟩
theorem mz_loc.has {φ : List Nat} {nL : Nat} {L : List (Option Value)} {ls : Array Slot} (h : mz_loc φ nL L ls) : lv_has ls nL (mz_lv φ L) := by
  refine ⟨h.1, h.2.1, fun q hq => ?_⟩
  obtain ⟨i, _, hi⟩ := List.mem_filterMap.mp hq
  cases hn : mz_nth L i with
  | none => rw [hn] at hi; cases hi
  | some v =>
    rw [hn] at hi
    have e : (i, mz_mv φ v) = q := Option.some.inj hi
    rw [← e]
    exact h.2.2.2 i v hn
theorem mz_loc.put {φ : List Nat} {nL k : Nat} {L L' : List (Option Value)} {ls ls' : Array Slot} {v w : Value} (h : mz_loc φ nL L ls) (hp : mz_put L k v = some L') (hw : w = mz_mv φ v) (hh : lv_has ls' nL ((k, w) :: (mz_lv φ L).filter (fun q => !(q.1 == k) && !(q.1 + 1 == k && q.2.category == 2)))) : mz_loc φ nL L' ls' := by
  obtain ⟨h1, h2, h3, h4⟩ := mz_put_spec hp
  subst hw
  refine ⟨hh.1, hh.2.1, by rw [h2]; exact h.2.2.1, fun i u hu => ?_⟩
  by_cases e : i = k
  · subst e
    have e2 : v = u := Option.some.inj (h3.symm.trans hu)
    subst e2
    exact hh.2.2 _ List.mem_cons_self
  · rw [h4 i e] at hu
    refine hh.2.2 (i, mz_mv φ u) (List.mem_cons_of_mem _ (List.mem_filter.mpr ⟨mz_lv_mem hu, ?_⟩))
    have c := mz_mv_cat φ u
    simp [e, c]
theorem mz_loc.app {φ ψ : List Nat} {nL n : Nat} {L : List (Option Value)} {ls : Array Slot} (h : mz_loc φ nL L ls) (hl : φ.length = n + 2) (hc : ∀ i v, mz_nth L i = some v → mz_clv (n + 2) v) : mz_loc (φ ++ ψ) nL L ls :=
  ⟨h.1, h.2.1, h.2.2.1, fun i v hv => by rw [mz_mv_app (by rw [hl]; exact hc i v hv)]; exact h.2.2.2 i v hv⟩
theorem mz_ini_nth : ∀ {k : Nat} {as : List Value} {i : Nat} {v : Value}, mz_nth (mz_ini k as) i = some v → as[i]? = some v
  | 0, _, _, _, h => by cases h
  | _ + 1, [], 0, _, h => by cases h
  | k + 1, [], i + 1, v, h => by have := mz_ini_nth (k := k) (as := []) (i := i) (v := v) h; simp at this
  | _ + 1, _ :: _, 0, _, h => h
  | k + 1, _ :: r, i + 1, v, h => by have := mz_ini_nth (k := k) (as := r) (i := i) (v := v) h; simpa using this
theorem mz_ini_len : ∀ (k : Nat) (as : List Value), (mz_ini k as).length = k
  | 0, _ => rfl
  | k + 1, [] => congrArg Nat.succ (mz_ini_len k [])
  | k + 1, _ :: r => congrArg Nat.succ (mz_ini_len k r)
theorem mz_lvargs {φ : List Nat} : ∀ (as : List Value) (j i : Nat) (v : Value), as[i]? = some v → (j + i, mz_mv φ v) ∈ lv_args j (as.map (mz_mv φ))
  | [], _, _, _, h => by simp at h
  | a :: r, j, 0, v, h => by
    simp only [List.getElem?_cons_zero, Option.some.injEq] at h
    subst h
    exact List.mem_cons_self
  | a :: r, j, i + 1, v, h => by
    rw [List.getElem?_cons_succ] at h
    have := mz_lvargs (φ := φ) r (j + 1) i v h
    rw [show j + (i + 1) = j + 1 + i by omega]
    refine List.mem_cons_of_mem _ ?_
    rw [if_neg (by rw [mz_mv_cat]; decide)]
    exact this
theorem mz_lgl {φ : List Nat} : ∀ (as : List Value), (lg_sl (as.map (mz_mv φ))).length = as.length
  | [] => rfl
  | a :: r => by
    have := mz_lgl (φ := φ) r
    unfold lg_sl at this ⊢
    rw [List.map_cons, List.flatMap_cons, if_neg (by rw [mz_mv_cat]; decide), List.length_append, this]
    simp [Nat.add_comm]
theorem mz_spl_spec : ∀ {k : Nat} {st acc as r : List Value}, mz_spl k st acc = some (as, r) → acc.reverse ++ st = as.reverse ++ r ∧ as.length = k + acc.length
  | 0, st, acc, as, r, h => by
    have e := Option.some.inj h
    cases e
    exact ⟨rfl, by omega⟩
  | k + 1, [], acc, as, r, h => by cases h
  | k + 1, v :: t, acc, as, r, h => by
    obtain ⟨h1, h2⟩ := mz_spl_spec (k := k) (st := t) (acc := v :: acc) h
    refine ⟨?_, by rw [h2, List.length_cons]; omega⟩
    rw [← h1]
    simp
