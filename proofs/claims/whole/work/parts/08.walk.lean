/-! THE WALK: each step of the little machine is a step of the machine -/
def mz_WS (M : mz_M) : List Cond := Cond.code M.1 M.2.1 M.2.2.1 M.2.2.2.1 :: mz_gw
def mz_rm (d idx : Nat) (as : List Value) : Room := { frames := d, cells := (mz_al idx as).1, slots := (mz_al idx as).2, locals := 30 * d }
abbrev mz_tys (aI aB : ClassId) : List (ClassId × FieldType) := [(aI, .int), (aB, .boolean)]
/-- the arrays that nobody writes: the first zones, the script -/
def mz_RO (t0 t1 L1 : Nat) (xs : Nat → Int32) (A : Nat → Prop) (U : State) (H : Heap) : Prop := va_T .int t0 8 (fun j => .int (mz_zn j)) A U H ∧ va_Z "TapLedger$Tariff" "FIRST_ZONES" "[I" (.ref t0) A U H ∧ va_T .int t1 L1 (fun j => .int (xs j)) A U H
def mz_In (D : va_G) (aI aB : ClassId) (φ : List Nat) (n : Nat) (h : mz_H) (sz L1 : Nat) (xs : Nat → Int32) (U : State) : Prop := U.heap.size = sz ∧ va_P D mz_cls (mz_ws aI aB φ n h) U.heap ∧ va_K D mz_cls (mz_tys aI aB) U ∧ va_D (fun _ => True) (mz_ws aI aB φ n h) ∧ (∀ w ∈ mz_nw, va_Nw w U) ∧ mz_RO (mz_ad φ 0) (mz_ad φ 1) L1 xs (va_A (mz_ws aI aB φ n h) sz) U U.heap
def mz_Pc (D : va_G) (aI aB : ClassId) (φ : List Nat) (n : Nat) (h : mz_H) (sz L1 : Nat) (xs : Nat → Int32) (as : List Value) : Array Value → State → Prop := va_Pc (as.map (mz_mv φ)) (mz_In D aI aB φ n h sz L1 xs)
def mz_Out (D : va_G) (aI aB : ClassId) (φ : List Nat) (n : Nat) (h : mz_H) (sz : Nat) (r : Option Value) (φ' : List Nat) (n' : Nat) (h' : mz_H) (H : Heap) : Prop := (∃ ψ, φ' = φ ++ ψ) ∧ φ'.length = n' + 2 ∧ mz_cl n' h' ∧ (∀ v, r = some v → mz_clv (n' + 2) v) ∧ h' 0 = h 0 ∧ h' 1 = h 1 ∧ va_P D mz_cls (mz_ws aI aB φ' n' h') H ∧ va_D (va_A (mz_ws aI aB φ n h) sz) (mz_ws aI aB φ' n' h')
def mz_Qc (D : va_G) (aI aB : ClassId) (φ : List Nat) (n : Nat) (h : mz_H) (sz : Nat) (Q : mz_Q) : Array Value → State → Outcome → State → Prop := fun _ st o t => (∃ (r : Option Value) (φ' : List Nat) (n' : Nat) (h' : mz_H), o = .returned (r.map (mz_mv φ')) ∧ Q r n' h' ∧ mz_Out D aI aB φ n h sz r φ' n' h' t.heap) ∧ va_F (va_A (mz_ws aI aB φ n h) sz) st t
/-- calls are contracts: at most d - 1 deep below -/
def mz_Snd (d : Nat) (K : mz_K) : Prop := ∀ idx as n h Q, K idx as n h Q → 1 ≤ d ∧ ∃ M, mz_tab[idx]? = some M ∧ ∀ (l : Launch) (D : va_G) (aI aB : ClassId) (φ : List Nat) (sz L1 : Nat) (xs : Nat → Int32), φ.length = n + 2 → mz_cl n h → (∀ v ∈ as, mz_clv (n + 2) v) → h 0 = .inl (0, 8, mz_zn) → h 1 = .inl (0, L1, xs) → Met l M.1 (mz_WS M) (mz_rm (d - 1) idx as) (mz_Pc D aI aB φ n h sz L1 xs as) (mz_Qc D aI aB φ n h sz Q) (mz_al idx as).1 (mz_al idx as).2 (va_A (mz_ws aI aB φ n h) sz)
theorem mz_RO.to {t0 t1 L1 : Nat} {xs : Nat → Int32} {A B : Nat → Prop} {U V : State} {H H1 : Heap} (h : mz_RO t0 t1 L1 xs A U H) (hvm : U.vm.Alike V.vm) (hq : ∀ a : Nat, a < H.size → ¬ A a → H1[a]? = H[a]?) (hAB : ∀ q, B q → A q) : mz_RO t0 t1 L1 xs B V H1 :=
  ⟨((h.1.kept hq).narrow hAB).moved hvm, ((h.2.1.kept hq).narrow hAB).moved hvm, ((h.2.2.kept hq).narrow hAB).moved hvm⟩
theorem mz_nwW {s U : State} (hW : s.WarmedH U.vm) (h : ∀ w ∈ mz_nw, va_Nw w s) : ∀ w ∈ mz_nw, va_Nw w U := by
  intro w hw
  have h1 := (List.mem_filter.mp hw).2
  have h2 := h w hw
  cases w <;> first | exact absurd h1 Bool.false_ne_true | exact va_Nw.warmF hW h2 | exact va_Nw.warmM hW h2
theorem mz_nwT {w : Cond} (hw : w ∈ mz_nw) : w.onTables = true := by
  have h1 := (List.mem_filter.mp hw).2
  cases w <;> first | exact absurd h1 Bool.false_ne_true | rfl
theorem mz_Pc.blind {D : va_G} {aI aB : ClassId} {φ : List Nat} {n : Nat} {h : mz_H} {sz L1 : Nat} {xs : Nat → Int32} {as : List Value} : FrameBlind (mz_Pc D aI aB φ n h sz L1 xs as) := by
  intro a U g mk q
  obtain ⟨q0, q1, q2, q3, q4, q5, q6⟩ := q
  exact ⟨q0, q1, q2, va_K.moved (u := U) (U := U.calling g mk a) (Vm.Alike.refl U.vm) q3, q4, fun w hw => va_Nw.same (mz_nwT hw) (u := U) (U := U.calling g mk a) rfl (q5 w hw), mz_RO.to (U := U) (V := U.calling g mk a) q6 (Vm.Alike.refl U.vm) (fun _ _ _ => rfl) (fun _ z => z)⟩
section MZ
variable {p : Program} {l : Launch} {e : Env} {R : Room} {s : State} {m : MethodId} {args : Array Value} {below : List Frame} {meth : Method} {c : Code} {Qf : State → Prop}
variable {cc : ByteArray} {nL own kind d rk : Nat} {D : va_G} {aI aB : ClassId} {A : Nat → Prop} {φ0 : List Nat} {L1 : Nat} {xs : Nat → Int32} {code : List mz_I} {K : mz_K} {Q : mz_Q}
def mz_ctx (p : Program) (R : Room) (s : State) (m : MethodId) (args : Array Value) (meth : Method) (c : Code) (cc : ByteArray) (nL own kind d : Nat) (D : va_G) (aI aB : ClassId) (A : Nat → Prop) (φ0 : List Nat) (L1 : Nat) (xs : Nat → Int32) (code : List mz_I) : Prop :=
  p.tables.exec = Jvm.exec ∧ c.code = cc ∧ c.maxLocals = nL ∧ s.vm.findClass (mz_RN own) = some m.cls ∧ (∀ w ∈ mz_gw, w.before args s = true) ∧ (∀ w ∈ mz_nw, va_Nw w s) ∧ va_K D mz_cls (mz_tys aI aB) s ∧ (∀ q, s.heap.size ≤ q → A q) ∧ mz_RO (mz_ad φ0 0) (mz_ad φ0 1) L1 xs A s s.heap ∧ (d ≤ R.frames ∧ 30 * d ≤ R.locals) ∧ (kind = 2 → meth.name = "<init>") ∧ (∀ pc q, mz_lk code pc = some q → decode cc pc = .ok (q.1, q.2.1) ∧ mz_chk own kind (pc, q) = true) ∧ 2 ≤ φ0.length
def mz_sim (R : Room) (s : State) (nL : Nat) (D : va_G) (aI aB : ClassId) (A : Nat → Prop) (φ0 : List Nat) (L1 : Nat) (xs : Nat → Int32) (L : List (Option Value)) (st : List Value) (n : Nat) (h : mz_H) (bc bs : Nat) (φ : List Nat) (ls : Array Slot) (H : Heap) (locs : List Loc) (cells slots : Nat) : Prop :=
  mz_loc φ nL L ls ∧ (va_P D mz_cls (mz_ws aI aB φ n h) H ∧ va_D A (mz_ws aI aB φ n h) ∧ va_S A s.heap H locs) ∧ (φ.length = n + 2 ∧ mz_cl n h ∧ (∀ v ∈ st, mz_clv (n + 2) v) ∧ (∀ i v, mz_nth L i = some v → mz_clv (n + 2) v)) ∧ (h 0 = .inl (0, 8, mz_zn) ∧ h 1 = .inl (0, L1, xs) ∧ ∃ ψ, φ = φ0 ++ ψ) ∧ (cells + bc = R.cells ∧ slots + bs = R.slots)
def mz_XW (p : Program) (l : Launch) (e : Env) (R : Room) (s : State) (m : MethodId) (args : Array Value) (below : List Frame) (meth : Method) (c : Code) (Qf : State → Prop) (nL : Nat) (D : va_G) (aI aB : ClassId) (A : Nat → Prop) (φ0 : List Nat) (L1 : Nat) (xs : Nat → Int32) : mz_X := fun pc L st n h bc bs => ∀ (φ : List Nat) (ls : Array Slot) (H : Heap) (locs : List Loc) (cells slots : Nat), mz_sim R s nL D aI aB A φ0 L1 xs L st n h bc bs φ ls H locs cells slots → W p l e R s m args below meth c H locs cells slots Qf (F0 m pc ls (st.map (mz_mv φ)))
variable {L : List (Option Value)} {st : List Value} {n : Nat} {h : mz_H} {bc bs : Nat} {φ : List Nat} {ls : Array Slot} {H : Heap} {locs : List Loc} {cells slots pc : Nat}
theorem mz_sim.stk {st' : List Value} (q : mz_sim R s nL D aI aB A φ0 L1 xs L st n h bc bs φ ls H locs cells slots) (hv : ∀ v ∈ st', mz_clv (n + 2) v) : mz_sim R s nL D aI aB A φ0 L1 xs L st' n h bc bs φ ls H locs cells slots :=
  ⟨q.1, q.2.1, ⟨q.2.2.1.1, q.2.2.1.2.1, hv, q.2.2.1.2.2.2⟩, q.2.2.2⟩
theorem mz_sim.clst (q : mz_sim R s nL D aI aB A φ0 L1 xs L st n h bc bs φ ls H locs cells slots) : ∀ v ∈ st, mz_clv (n + 2) v := q.2.2.1.2.2.1
theorem mz_sim.lput {L' : List (Option Value)} {k : Nat} {v : Value} {st' : List Value} {ls' : Array Slot} (q : mz_sim R s nL D aI aB A φ0 L1 xs L st n h bc bs φ ls H locs cells slots) (hp : mz_put L k v = some L') (hl : mz_loc φ nL L' ls') (hv : mz_clv (n + 2) v) (hst : ∀ v ∈ st', mz_clv (n + 2) v) : mz_sim R s nL D aI aB A φ0 L1 xs L' st' n h bc bs φ ls' H locs cells slots := by
  refine ⟨hl, q.2.1, ⟨q.2.2.1.1, q.2.2.1.2.1, hst, fun i u hu => ?_⟩, q.2.2.2⟩
  obtain ⟨h1, h2, h3, h4⟩ := mz_put_spec hp
  by_cases e : i = k
  · subst e
    have e2 : v = u := Option.some.inj (h3.symm.trans hu)
    rw [← e2]
    exact hv
  · rw [h4 i e] at hu
    exact q.2.2.1.2.2.2 i u hu
theorem mz_sim.hput {h' : mz_H} {H' : Heap} {locs' : List Loc} {st' : List Value} (q : mz_sim R s nL D aI aB A φ0 L1 xs L st n h bc bs φ ls H locs cells slots) (hP : va_P D mz_cls (mz_ws aI aB φ n h') H') (hD : va_D A (mz_ws aI aB φ n h')) (hS : va_S A s.heap H' locs') (hc : mz_cl n h') (h0 : h' 0 = h 0) (h1 : h' 1 = h 1) (hst : ∀ v ∈ st', mz_clv (n + 2) v) : mz_sim R s nL D aI aB A φ0 L1 xs L st' n h' bc bs φ ls H' locs' cells slots :=
  ⟨q.1, ⟨hP, hD, hS⟩, ⟨q.2.2.1.1, hc, hst, q.2.2.1.2.2.2⟩, ⟨h0.trans q.2.2.2.1.1, h1.trans q.2.2.2.1.2.1, q.2.2.2.1.2.2⟩, q.2.2.2.2⟩
/-- a new cell -/
theorem mz_sim.hnew {x : mz_C} {q0 k : Nat} {H' : Heap} {st' : List Value} (q : mz_sim R s nL D aI aB A φ0 L1 xs L st n h bc bs φ ls H locs cells slots) (hP : va_P D mz_cls (mz_ws aI aB φ n h ++ [(q0, mz_cell aI aB (φ ++ [q0]) x)]) H') (hD : va_D A (mz_ws aI aB φ n h ++ [(q0, mz_cell aI aB (φ ++ [q0]) x)])) (hS : va_S A s.heap H' locs) (hx : mz_clc (n + 3) x) (hst : ∀ v ∈ st', mz_clv (n + 3) v) (hb : 1 ≤ bc) (hk : k ≤ bs) : mz_sim R s nL D aI aB A φ0 L1 xs L st' (n + 1) (mz_up h (n + 2) x) (bc - 1) (bs - k) (φ ++ [q0]) ls H' locs (cells + 1) (slots + k) := by
  obtain ⟨q1, q2, ⟨c1, c2, c3, c4⟩, ⟨r1, r2, ψ, r3⟩, b1, b2⟩ := q
  rw [mz_ws_push c1 c2] at hP hD
  refine ⟨q1.app c1 c4, ⟨hP, hD, hS⟩, ⟨by rw [List.length_append, c1]; rfl, mz_cl_push c2 hx, hst, fun i v hv => mz_clv_le (by omega) (c4 i v hv)⟩, ⟨?_, ?_, ψ ++ [q0], by rw [r3, List.append_assoc]⟩, by omega, by omega⟩
  · rw [← r1]
    exact if_neg (by omega)
  · rw [← r2]
    exact if_neg (by omega)
theorem mz_mapE {v : Value} {r : List Value} : (v :: r).map (mz_mv φ) = mz_mv φ v :: r.map (mz_mv φ) := rfl
/-- fields -/
theorem sd_get (C0 : mz_ctx p R s m args meth c cc nL own kind d D aI aB A φ0 L1 xs code) {cp len x y a : Nat} {r : List Value} {fs : List Value} {v : Value} (hd : decode cc pc = .ok (.getfield cp, len)) (hk : mz_chk own kind (pc, .getfield cp, len, x, y) = true) (ha : h a = .inr (x, fs)) (hv : fs[y]? = some v) (hy : y < mz_N x) (q : mz_sim R s nL D aI aB A φ0 L1 xs L (.ref a :: r) n h bc bs φ ls H locs cells slots) (hX : mz_XW p l e R s m args below meth c Qf nL D aI aB A φ0 L1 xs (pc + 3) L (v :: r) n h bc bs) : W p l e R s m args below meth c H locs cells slots Qf (F0 m pc ls ((.ref a :: r).map (mz_mv φ))) := by
  obtain ⟨hx, hb, hml, hown, hts, hnw, hK, hA, hRO, hR, hin, hcode, hφ⟩ := C0
  have hcl := q.clst
  have ha2 : a < n + 2 := hcl _ List.mem_cons_self
  have hge : 2 ≤ a := by
    rcases Nat.lt_or_ge a 2 with z | z
    · rcases (show a = 0 ∨ a = 1 by omega) with rfl | rfl
      · rw [q.2.2.2.1.1] at ha; cases ha
      · rw [q.2.2.2.1.2.1] at ha; cases ha
    · exact z
  obtain ⟨j, rfl⟩ : ∃ j, a = j + 2 := ⟨a - 2, by omega⟩
  have hg := mz_ws_get (aI := aI) (aB := aB) (φ := φ) (h := h) (show j < n by omega)
  rw [ha] at hg
  have hcv : mz_clv (n + 2) v := by
    have z := q.2.2.1.2.1 (j + 2) ha2
    rw [ha] at z
    exact z v (List.mem_of_getElem? hv)
  have hkk := hX φ ls H locs cells slots (q.stk (fun w hw => (List.mem_cons.mp hw).elim (fun z => z ▸ hcv) (fun z => hcl w (List.mem_cons_of_mem _ z))))
  simp only [mz_chk, Bool.and_eq_true, Bool.or_eq_true, List.contains_eq_mem, decide_eq_true_eq, beq_iff_eq] at hk
  obtain ⟨rfl, hk⟩ := hk
  have hx12 : x < 12 := by
    have key : ∀ e ∈ mz_FL, e.2.2.1 < 12 := by decide +kernel
    rcases hk with z | z
    · exact key _ z
    · exact key _ z
  have hvm : (fs.map (mz_mv φ))[y]? = some (mz_mv φ v) := by rw [List.getElem?_map, hv]; rfl
  have hdecl := ((mz_cls1 hx12).1 y hy).2.2.2
  rcases hk with z | z
  · exact va_get (D := D) (ci := x) (C := mz_RN x) (T := mz_F x) (N := mz_N x) (Ts := mz_gw) (ref := mz_RN x) hx hb hts (mz_uws hx12) hown hK q.2.1.1 j hg (mz_clsAt hx12) y hy (hts _ (mz_FLw0 z)) (fun _ h9 => by rw [hdecl] at h9; exact h9) hvm hd hkk
  · exact va_getN (D := D) (ci := x) (C := mz_RN x) (T := mz_F x) (N := mz_N x) (Ts := mz_gw) (ref := mz_RN x) (host := "TapLedger") hx hb hts (mz_uws hx12) hown hK q.2.1.1 j hg (mz_clsAt hx12) y hy (va_Nw.use rfl (hnw _ (mz_FLw1 z))) (fun _ h9 => by rw [hdecl] at h9; exact h9) hvm hd hkk
theorem mz_vt_ok {ty : FieldType} {v : Value} (h : mz_vt ty v = true) : narrow ty (mz_mv φ v) = mz_mv φ v ∧ fits ty (mz_mv φ v) = true := by
  cases ty <;> cases v <;> first | exact ⟨rfl, rfl⟩ | exact absurd h Bool.false_ne_true
theorem sd_put (C0 : mz_ctx p R s m args meth c cc nL own kind d D aI aB A φ0 L1 xs code) {cp len x y a : Nat} {r : List Value} {fs : List Value} {v : Value} (hd : decode cc pc = .ok (.putfield cp, len)) (hk : mz_chk own kind (pc, .putfield cp, len, x, y) = true) (ha : h a = .inr (x, fs)) (hl : y < fs.length) (hy : y < mz_N x) (ht : mz_vt (mz_ty x y) v = true) (q : mz_sim R s nL D aI aB A φ0 L1 xs L (v :: .ref a :: r) n h bc bs φ ls H locs cells slots) (hX : mz_XW p l e R s m args below meth c Qf nL D aI aB A φ0 L1 xs (pc + 3) L r n (mz_up h a (.inr (x, fs.set y v))) bc bs) : W p l e R s m args below meth c H locs cells slots Qf (F0 m pc ls ((v :: .ref a :: r).map (mz_mv φ))) := by
  obtain ⟨hx, hb, hml, hown, hts, hnw, hK, hA, hRO, hR, hin, hcode, hφ⟩ := C0
  have hcl := q.clst
  have ha2 : a < n + 2 := hcl (.ref a) (List.mem_cons_of_mem _ List.mem_cons_self)
  have hge : 2 ≤ a := by
    rcases Nat.lt_or_ge a 2 with z | z
    · rcases (show a = 0 ∨ a = 1 by omega) with rfl | rfl
      · rw [q.2.2.2.1.1] at ha; cases ha
      · rw [q.2.2.2.1.2.1] at ha; cases ha
    · exact z
  obtain ⟨j, rfl⟩ : ∃ j, a = j + 2 := ⟨a - 2, by omega⟩
  have hg := mz_ws_get (aI := aI) (aB := aB) (φ := φ) (h := h) (show j < n by omega)
  rw [ha] at hg
  simp only [mz_chk, Bool.and_eq_true, Bool.or_eq_true, List.contains_eq_mem, decide_eq_true_eq, beq_iff_eq, Bool.not_eq_true'] at hk
  obtain ⟨⟨rfl, hk⟩, hf⟩ := hk
  have hx12 : x < 12 := by
    have key : ∀ e ∈ mz_FL, e.2.2.1 < 12 := by decide +kernel
    exact key _ hk
  obtain ⟨hlay, hpar, hne, hdecl⟩ := (mz_cls1 hx12).1 y hy
  obtain ⟨hn1, hn2⟩ := mz_vt_ok (φ := φ) ht
  have hcfs := q.2.2.1.2.1 (j + 2) ha2
  rw [ha] at hcfs
  have hkk : ∀ (H1 : Heap) (locs1 : List Loc), va_P D mz_cls ((mz_ws aI aB φ n h).set j (mz_ad φ (j + 2), .inr (x, (fs.map (mz_mv φ)).set y (mz_mv φ v)))) H1 → va_D A ((mz_ws aI aB φ n h).set j (mz_ad φ (j + 2), .inr (x, (fs.map (mz_mv φ)).set y (mz_mv φ v)))) → va_S A s.heap H1 locs1 → W p l e R s m args below meth c H1 locs1 cells slots Qf (F0 m (pc + 3) ls (r.map (mz_mv φ))) := by
    intro H1 locs1 hP hD hS
    have e2 : (Sum.inr (x, (fs.map (mz_mv φ)).set y (mz_mv φ v)) : va_E) = mz_cell aI aB φ (.inr (x, fs.set y v)) := by
      show _ = (Sum.inr (x, (fs.set y v).map (mz_mv φ)) : va_E)
      rw [List.map_set]
    rw [e2, mz_ws_set] at hP hD
    refine hX φ ls H1 locs1 cells slots (q.hput hP hD hS (mz_cl_set q.2.2.1.2.1 ?_) (if_neg (by omega)) (if_neg (by omega)) (fun w hw => hcl w (List.mem_cons_of_mem _ (List.mem_cons_of_mem _ hw))))
    intro w hw
    rcases List.mem_or_eq_of_mem_set hw with z | z
    · exact hcfs w z
    · rw [z]
      exact hcl v List.mem_cons_self
  have hlm : y < (fs.map (mz_mv φ)).length := by rw [List.length_map]; exact hl
  cases hfin : (mz_F x y).2.2.2 with
  | false => exact va_put (D := D) (ci := x) (C := mz_RN x) (T := mz_F x) (N := mz_N x) (Ts := mz_gw) (ref := mz_RN x) hx hb hts (mz_uws hx12) (mz_ty x) (fun k hk => ((mz_cls1 hx12).1 k hk).2.1) (fun a ha b hb hab => ((mz_cls1 hx12).1 a ha).2.2.1 b hb hab) hown hK q.2.1.1 q.2.1.2.1 q.2.1.2.2 j hg (mz_clsAt hx12) y hy (hts _ (mz_FLw0 hk)) (fun _ h9 => by rw [hdecl] at h9; exact h9) hfin hpar hn1 hn2 hlm hd hkk
  | true =>
    rw [hfin] at hf
    obtain ⟨k2, ko⟩ := hf.resolve_left (by decide)
    exact va_putF (D := D) (ci := x) (C := mz_RN x) (T := mz_F x) (N := mz_N x) (Ts := mz_gw) (ref := mz_RN x) hx hb hts (mz_uws hx12) (mz_ty x) (fun k hk => ((mz_cls1 hx12).1 k hk).2.1) (fun a ha b hb hab => ((mz_cls1 hx12).1 a ha).2.2.1 b hb hab) hown hK q.2.1.1 q.2.1.2.1 q.2.1.2.2 j hg (mz_clsAt hx12) y hy (hts _ (mz_FLw0 hk)) (fun _ h9 => by rw [hdecl] at h9; exact h9) hfin (hin k2) (by rw [hdecl, ko]) hpar hn1 hn2 hlm hd hkk
end MZ
