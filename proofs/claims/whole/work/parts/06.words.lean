/-! out of the checks: each word that an instruction links is among the tables' words -/
theorem mz_gwS {w : Cond} (h : w ∈ mz_gw) : (w.onTables && w.keeps) = true ∨ ∃ ty, w = .arrayClass ty := good_of_word (List.mem_filter.mp h).2
theorem mz_FLz : mz_FL = (mz_FL.zip mz_FP).map Prod.fst := by decide +kernel
theorem mz_MLz : mz_ML = (mz_ML.zip mz_MP).map Prod.fst := by decide +kernel
theorem mz_CLz : mz_CL = (mz_CL.zip mz_CP).map Prod.fst := by decide +kernel
theorem mz_KLz : mz_KL = (mz_KL.zip mz_KP).map Prod.fst := by decide +kernel
theorem mz_memz {α : Type} {l : List α} {p : List Nat} (hz : l = (l.zip p).map Prod.fst) {f : α × Nat → Bool} (h : (l.zip p).all f = true) {e : α} (he : e ∈ l) : ∃ i, f (e, i) = true := by
  rw [hz] at he
  obtain ⟨q, hq, rfl⟩ := List.mem_map.mp he
  exact ⟨q.2, List.all_eq_true.mp h q hq⟩
theorem mz_FLw0 {own cp ci k : Nat} (h : (own, cp, ci, k, 0) ∈ mz_FL) : Cond.fieldLink (mz_RN own) cp (mz_RN ci) (mz_F ci k).2.1 (mz_F ci k).2.2.1 ∈ mz_gw := by
  obtain ⟨i, hi⟩ := mz_memz mz_FLz mz_FLok h
  exact mz_mem hi rfl
theorem mz_FLw1 {own cp ci k : Nat} (h : (own, cp, ci, k, 1) ∈ mz_FL) : Cond.fieldLinkNest (mz_RN own) cp (mz_RN ci) (mz_F ci k).2.1 (mz_F ci k).2.2.1 "TapLedger" ∈ mz_nw := by
  obtain ⟨i, hi⟩ := mz_memz mz_FLz mz_FLok h
  exact mz_memN hi rfl
theorem mz_MLw0 {own cp idx k : Nat} (h : (own, cp, idx, k) ∈ mz_ML) (hk : ¬ (k = 1 ∨ k = 3 ∨ k = 5)) : Cond.methodLink (mz_RN own) cp (mz_y idx) ∈ mz_gw := by
  obtain ⟨i, hi⟩ := mz_memz mz_MLz mz_MLok h
  have e : mz_mw (own, cp, idx, k) = .methodLink (mz_RN own) cp (mz_y idx) := if_neg hk
  dsimp only at hi
  rw [e] at hi
  exact mz_mem hi rfl
theorem mz_MLw1 {own cp idx k : Nat} (h : (own, cp, idx, k) ∈ mz_ML) (hk : k = 1 ∨ k = 3 ∨ k = 5) : Cond.methodLinkNest (mz_RN own) cp (mz_y idx) "TapLedger" ∈ mz_nw := by
  obtain ⟨i, hi⟩ := mz_memz mz_MLz mz_MLok h
  have e : mz_mw (own, cp, idx, k) = .methodLinkNest (mz_RN own) cp (mz_y idx) "TapLedger" := if_pos hk
  dsimp only at hi
  rw [e] at hi
  exact mz_memN hi rfl
theorem mz_CLw {own cp ci : Nat} (h : (own, cp, ci) ∈ mz_CL) : Cond.classLink (mz_RN own) cp (mz_RN ci) ∈ mz_gw := by
  obtain ⟨i, hi⟩ := mz_memz mz_CLz mz_CLok h
  exact mz_mem hi rfl
theorem mz_KLw {own cp v : Nat} (h : (own, cp, v) ∈ mz_KL) : Cond.constant (mz_RN own) cp (nI v) ∈ mz_gw := by
  obtain ⟨i, hi⟩ := mz_memz mz_KLz mz_KLok h
  exact mz_mem hi rfl
/-- of a kind of object: its fields' words, types, names -/
theorem mz_cls1 {i : Nat} (hi : i < 12) : (∀ k, k < mz_N i → u_lay (mz_RN i) (mz_F i) k ∈ mz_gw ∧ parseFieldDescriptor (mz_F i k).2.2.1 = some (mz_ty i k) ∧ (∀ j, j < mz_N i → k ≠ j → (mz_F i k).2.1 ≠ (mz_F i j).2.1) ∧ (mz_F i k).1 = mz_RN i) ∧ Cond.instantiable (mz_RN i) (mz_N i) ∈ mz_gw ∧ Cond.initialized (mz_RN i) ∈ mz_gw := by
  have h := List.all_eq_true.mp mz_clsok i (List.mem_range.mpr hi)
  simp only [Bool.and_eq_true] at h
  obtain ⟨⟨h1, h2⟩, h3⟩ := h
  refine ⟨fun k hk => ?_, mz_mem h2 rfl, mz_mem h3 rfl⟩
  have h4 := List.all_eq_true.mp h1 k (List.mem_range.mpr hk)
  simp only [Bool.and_eq_true] at h4
  obtain ⟨⟨⟨a, b⟩, c⟩, e⟩ := h4
  refine ⟨mz_mem a ?_, of_decide_eq_true b, fun j hj hne => ?_, of_decide_eq_true e⟩
  · unfold u_lay
    split <;> rfl
  · have := List.all_eq_true.mp c j (List.mem_range.mpr hj)
    simp only [Bool.or_eq_true, beq_iff_eq, decide_eq_true_eq] at this
    rcases this with z | z
    · exact absurd z.symm hne
    · exact z
theorem mz_clsAt {i : Nat} (hi : i < 12) : mz_cls[i]? = some (mz_RN i, mz_F i, mz_N i) := by
  have : ∀ i, i < 12 → mz_cls[i]? = some (mz_RN i, mz_F i, mz_N i) := by
    intro i hi
    match i, hi with
    | 0, _ => rfl
    | 1, _ => rfl
    | 2, _ => rfl
    | 3, _ => rfl
    | 4, _ => rfl
    | 5, _ => rfl
    | 6, _ => rfl
    | 7, _ => rfl
    | 8, _ => rfl
    | 9, _ => rfl
    | 10, _ => rfl
    | 11, _ => rfl
    | k + 12, h => omega
  exact this i hi
theorem mz_uws {i : Nat} (hi : i < 12) : ∀ w ∈ u_ws (mz_RN i) (mz_F i) (mz_N i), w ∈ mz_gw := by
  intro w hw
  obtain ⟨k, hk, rfl⟩ := List.mem_map.mp hw
  exact ((mz_cls1 hi).1 k (List.mem_range.mp hk)).1
theorem mz_dfV : ∀ i, i < 12 → ∀ j, j < mz_N i → defaultValue (mz_ty i j) = vp_V (mz_df i) j := by decide +kernel
theorem mz_dfN : ∀ i, i < 12 → (mz_df i).length = mz_N i := by decide +kernel
/-- of a method: its words -/
theorem mz_meth {idx : Nat} {M : mz_M} (h : mz_tab[idx]? = some M) : (Cond.code M.1 M.2.1 M.2.2.1 M.2.2.2.1 ∈ mz_gw ∧ Cond.initialized M.1.cls ∈ mz_gw ∧ (M.2.2.2.2.2.1 = 1 → Cond.static M.1 ∈ mz_gw) ∧ (¬ M.2.2.2.2.2.1 = 1 → Cond.instanceMethod M.1 ∈ mz_gw) ∧ (M.2.2.2.2.2.1 = 0 → Cond.selects M.1.cls M.1 M.1 ∈ mz_gw)) ∧ M.1.cls = mz_RN M.2.2.2.2.1 ∧ plainName M.1.cls = true ∧ (M.1.cls ≠ "java/lang/invoke/MethodHandle" ∧ M.1.cls ≠ "java/lang/invoke/VarHandle" ∧ (parseMethodDescriptor M.1.desc).map (fun d => d.parameters.length) = some (mz_np.getD idx 0)) ∧ (M.2.2.2.2.2.1 = 2 → M.1.name = "<init>") ∧ M.2.2.1 ≤ 11 ∧ mz_chkC M.2.2.2.2.1 M.2.2.2.2.2.1 M.2.1 M.2.2.2.2.2.2 = true := by
  have hm : M ∈ mz_tab := List.mem_of_getElem? h
  have hl : mz_tab.length = mz_np.length := by decide +kernel
  have hlt := (List.getElem?_eq_some_iff.mp h).1
  obtain ⟨n, hn⟩ : ∃ n, mz_np[idx]? = some n := ⟨_, List.getElem?_eq_getElem (by omega)⟩
  have hz : (M, n) ∈ mz_tab.zip mz_np := List.mem_of_getElem? (i := idx) (by rw [List.getElem?_zip_eq_some]; exact ⟨h, hn⟩)
  obtain ⟨p, hp⟩ := mz_Wok _ hz
  have hnp : mz_np.getD idx 0 = n := by rw [List.getD_eq_getElem?_getD, hn]; rfl
  unfold mz_chkW at hp
  simp only [Bool.and_eq_true, decide_eq_true_eq] at hp
  obtain ⟨⟨⟨⟨⟨⟨⟨⟨⟨⟨h1, h2⟩, h3⟩, h4⟩, h5⟩, h6⟩, h7⟩, h8⟩, h9⟩, h10⟩, h11⟩ := hp
  refine ⟨⟨List.mem_filter.mpr ⟨mz_codes M hm, rfl⟩, mz_mem h1 rfl, fun e => ?_, fun e => ?_, fun e => ?_⟩, h4, h5, ⟨h6, h7, by rw [hnp]; exact h9⟩, fun e => ?_, h10, mz_Cok M hm⟩
  · rw [if_pos e] at h2
    exact mz_mem h2 rfl
  · rw [if_neg e] at h2
    exact mz_mem h2 rfl
  · simp only [Bool.or_eq_true, bne_iff_ne, ne_eq] at h3
    exact mz_mem (h3.resolve_left (fun z => z e)) rfl
  · simp only [Bool.or_eq_true, bne_iff_ne, ne_eq, decide_eq_true_eq] at h8
    exact h8.resolve_left (fun z => z e)
theorem mz_yat {idx : Nat} {M : mz_M} (h : mz_tab[idx]? = some M) : mz_y idx = M.1 := by
  unfold mz_y
  rw [h]
theorem mz_lk_mem : ∀ (code : List mz_I) (pc : Nat) (q : Instr × Nat × Nat × Nat), mz_lk code pc = some q → (pc, q) ∈ code
  | [], _, _, h => by cases h
  | e :: r, pc, q, h => by
    unfold mz_lk at h
    cases hb : Nat.beq e.1 pc with
    | true =>
      rw [hb] at h
      have e1 : e.1 = pc := Nat.eq_of_beq_eq_true hb
      have e2 : e.2 = q := Option.some.inj h
      rw [← e1, ← e2]
      exact List.mem_cons_self
    | false =>
      rw [hb] at h
      exact List.mem_cons_of_mem _ (mz_lk_mem r pc q h)
theorem mz_dec {own kind : Nat} {bytes : ByteArray} {code : List mz_I} (h : mz_chkC own kind bytes code = true) {pc : Nat} {q : Instr × Nat × Nat × Nat} (hq : mz_lk code pc = some q) : decode bytes pc = .ok (q.1, q.2.1) ∧ mz_chk own kind (pc, q) = true := by
  have h1 := List.all_eq_true.mp h _ (mz_lk_mem code pc q hq)
  simp only [Bool.and_eq_true, decide_eq_true_eq] at h1
  exact h1
