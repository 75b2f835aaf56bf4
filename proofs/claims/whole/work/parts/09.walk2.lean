/-! arrays, new cells, calls -/
section MZ2
variable {p : Program} {l : Launch} {e : Env} {R : Room} {s : State} {m : MethodId} {args : Array Value} {below : List Frame} {meth : Method} {c : Code} {Qf : State → Prop}
variable {cc : ByteArray} {nL own kind d rk : Nat} {D : va_G} {aI aB : ClassId} {A : Nat → Prop} {φ0 : List Nat} {L1 : Nat} {xs : Nat → Int32} {code : List mz_I} {K : mz_K} {Q : mz_Q}
variable {L : List (Option Value)} {st : List Value} {n : Nat} {h : mz_H} {bc bs : Nat} {φ : List Nat} {ls : Array Slot} {H : Heap} {locs : List Loc} {cells slots pc : Nat}
theorem mz_sim.ad0 (hφ : 2 ≤ φ0.length) (q : mz_sim R s nL D aI aB A φ0 L1 xs L st n h bc bs φ ls H locs cells slots) : mz_ad φ 0 = mz_ad φ0 0 ∧ mz_ad φ 1 = mz_ad φ0 1 := by
  obtain ⟨ψ, r3⟩ := q.2.2.2.1.2.2
  rw [r3]
  exact ⟨mz_ad_app (by omega), mz_ad_app (by omega)⟩
theorem mz_tl {v : Value} {P : Value → Prop} {r : List Value} (h : ∀ w ∈ v :: r, P w) : ∀ w ∈ r, P w := fun w hw => h w (List.mem_cons_of_mem _ hw)
theorem mz_cs {v : Value} {P : Value → Prop} {r : List Value} (hv : P v) (h : ∀ w ∈ r, P w) : ∀ w ∈ v :: r, P w := fun w hw => (List.mem_cons.mp hw).elim (fun z => z ▸ hv) (h w)
theorem sd_iald (C0 : mz_ctx p R s m args meth c cc nL own kind d D aI aB A φ0 L1 xs code) {a m' : Nat} {f : Nat → Int32} {i : Int32} {r : List Value} (hd : decode cc pc = .ok (.iaload, 1)) (ha : h a = .inl (0, m', f)) (hin : vp_in i m') (q : mz_sim R s nL D aI aB A φ0 L1 xs L (.int i :: .ref a :: r) n h bc bs φ ls H locs cells slots) (hX : mz_XW p l e R s m args below meth c Qf nL D aI aB A φ0 L1 xs (pc + 1) L (.int (f i.toNatClampNeg) :: r) n h bc bs) : W p l e R s m args below meth c H locs cells slots Qf (F0 m pc ls ((.int i :: .ref a :: r).map (mz_mv φ))) := by
  obtain ⟨hx, hb, hml, hown, hts, hnw, hK, hA, hRO, hR, hi2, hcode, hφ⟩ := C0
  have hcl := q.clst
  have ha2 : a < n + 2 := mz_tl hcl (.ref a) List.mem_cons_self
  have hkk := hX φ ls H locs cells slots (q.stk (mz_cs trivial (mz_tl (mz_tl hcl))))
  obtain ⟨e0, e1⟩ := q.ad0 hφ
  rcases Nat.lt_or_ge a 2 with z | z
  · rcases (show a = 0 ∨ a = 1 by omega) with rfl | rfl
    · rw [q.2.2.2.1.1] at ha
      cases ha
      have hT := hRO.1
      rw [← e0] at hT
      exact va_ti hx hb hT q.2.1.2.2 hin rfl hd hkk
    · rw [q.2.2.2.1.2.1] at ha
      cases ha
      have hT := hRO.2.2
      rw [← e1] at hT
      exact va_ti hx hb hT q.2.1.2.2 hin rfl hd hkk
  · obtain ⟨j, rfl⟩ : ∃ j, a = j + 2 := ⟨a - 2, by omega⟩
    have hg := mz_ws_get (aI := aI) (aB := aB) (φ := φ) (h := h) (show j < n by omega)
    rw [ha] at hg
    exact va_iald hx hb hK q.2.1.1 j 0 hg rfl hin hd hkk
theorem sd_bald (C0 : mz_ctx p R s m args meth c cc nL own kind d D aI aB A φ0 L1 xs code) {a m' : Nat} {f : Nat → Int32} {i : Int32} {r : List Value} (hd : decode cc pc = .ok (.baload, 1)) (ha : h a = .inl (1, m', f)) (hin : vp_in i m') (q : mz_sim R s nL D aI aB A φ0 L1 xs L (.int i :: .ref a :: r) n h bc bs φ ls H locs cells slots) (hX : mz_XW p l e R s m args below meth c Qf nL D aI aB A φ0 L1 xs (pc + 1) L (.int (f i.toNatClampNeg) :: r) n h bc bs) : W p l e R s m args below meth c H locs cells slots Qf (F0 m pc ls ((.int i :: .ref a :: r).map (mz_mv φ))) := by
  obtain ⟨hx, hb, hml, hown, hts, hnw, hK, hA, hRO, hR, hi2, hcode, hφ⟩ := C0
  have hcl := q.clst
  have ha2 : a < n + 2 := mz_tl hcl (.ref a) List.mem_cons_self
  have hkk := hX φ ls H locs cells slots (q.stk (mz_cs trivial (mz_tl (mz_tl hcl))))
  have z : 2 ≤ a := by
    rcases Nat.lt_or_ge a 2 with z | z
    · rcases (show a = 0 ∨ a = 1 by omega) with rfl | rfl
      · rw [q.2.2.2.1.1] at ha; cases ha
      · rw [q.2.2.2.1.2.1] at ha; cases ha
    · exact z
  obtain ⟨j, rfl⟩ : ∃ j, a = j + 2 := ⟨a - 2, by omega⟩
  have hg := mz_ws_get (aI := aI) (aB := aB) (φ := φ) (h := h) (show j < n by omega)
  rw [ha] at hg
  exact va_zald hx hb hK q.2.1.1 j 1 hg rfl hin hd hkk
theorem sd_iast (C0 : mz_ctx p R s m args meth c cc nL own kind d D aI aB A φ0 L1 xs code) {a m' : Nat} {f : Nat → Int32} {i v : Int32} {r : List Value} (hd : decode cc pc = .ok (.iastore, 1)) (ha : h a = .inl (0, m', f)) (h2 : 2 ≤ a) (hin : vp_in i m') (q : mz_sim R s nL D aI aB A φ0 L1 xs L (.int v :: .int i :: .ref a :: r) n h bc bs φ ls H locs cells slots) (hX : mz_XW p l e R s m args below meth c Qf nL D aI aB A φ0 L1 xs (pc + 1) L r n (mz_up h a (.inl (0, m', upd f i.toNatClampNeg v))) bc bs) : W p l e R s m args below meth c H locs cells slots Qf (F0 m pc ls ((.int v :: .int i :: .ref a :: r).map (mz_mv φ))) := by
  obtain ⟨hx, hb, hml, hown, hts, hnw, hK, hA, hRO, hR, hi2, hcode, hφ⟩ := C0
  have hcl := q.clst
  have ha2 : a < n + 2 := mz_tl (mz_tl hcl) (.ref a) List.mem_cons_self
  obtain ⟨j, rfl⟩ : ∃ j, a = j + 2 := ⟨a - 2, by omega⟩
  have hg := mz_ws_get (aI := aI) (aB := aB) (φ := φ) (h := h) (show j < n by omega)
  rw [ha] at hg
  refine va_iast hx hb hK q.2.1.1 q.2.1.2.1 q.2.1.2.2 j 0 hg rfl hin hd fun H1 locs1 hP hD hS => ?_
  have e2 : (Sum.inl (aI, m', Sum.inl (upd f i.toNatClampNeg v)) : va_E) = mz_cell aI aB φ (.inl (0, m', upd f i.toNatClampNeg v)) := rfl
  rw [show (if (0, m', f).1 = 0 then aI else aB) = aI from rfl, e2, mz_ws_set] at hP hD
  exact hX φ ls H1 locs1 cells slots (q.hput hP hD hS (mz_cl_set q.2.2.1.2.1 trivial) (if_neg (by omega)) (if_neg (by omega)) (mz_tl (mz_tl (mz_tl hcl))))
theorem sd_bast (C0 : mz_ctx p R s m args meth c cc nL own kind d D aI aB A φ0 L1 xs code) {a m' : Nat} {f : Nat → Int32} {i v : Int32} {r : List Value} (hd : decode cc pc = .ok (.bastore, 1)) (ha : h a = .inl (1, m', f)) (h2 : 2 ≤ a) (hin : vp_in i m') (q : mz_sim R s nL D aI aB A φ0 L1 xs L (.int v :: .int i :: .ref a :: r) n h bc bs φ ls H locs cells slots) (hX : mz_XW p l e R s m args below meth c Qf nL D aI aB A φ0 L1 xs (pc + 1) L r n (mz_up h a (.inl (1, m', upd f i.toNatClampNeg (vp_nar .boolean v)))) bc bs) : W p l e R s m args below meth c H locs cells slots Qf (F0 m pc ls ((.int v :: .int i :: .ref a :: r).map (mz_mv φ))) := by
  obtain ⟨hx, hb, hml, hown, hts, hnw, hK, hA, hRO, hR, hi2, hcode, hφ⟩ := C0
  have hcl := q.clst
  have ha2 : a < n + 2 := mz_tl (mz_tl hcl) (.ref a) List.mem_cons_self
  obtain ⟨j, rfl⟩ : ∃ j, a = j + 2 := ⟨a - 2, by omega⟩
  have hg := mz_ws_get (aI := aI) (aB := aB) (φ := φ) (h := h) (show j < n by omega)
  rw [ha] at hg
  refine va_zast hx hb hK q.2.1.1 q.2.1.2.1 q.2.1.2.2 j 1 hg rfl hin hd fun H1 locs1 hP hD hS => ?_
  have e2 : (Sum.inl (aB, m', Sum.inl (upd f i.toNatClampNeg (vp_nar .boolean v))) : va_E) = mz_cell aI aB φ (.inl (1, m', upd f i.toNatClampNeg (vp_nar .boolean v))) := rfl
  rw [show (if (1, m', f).1 = 0 then aI else aB) = aB from rfl, e2, mz_ws_set] at hP hD
  exact hX φ ls H1 locs1 cells slots (q.hput hP hD hS (mz_cl_set q.2.2.1.2.1 trivial) (if_neg (by omega)) (if_neg (by omega)) (mz_tl (mz_tl (mz_tl hcl))))
theorem sd_alen (C0 : mz_ctx p R s m args meth c cc nL own kind d D aI aB A φ0 L1 xs code) {a t m' : Nat} {f : Nat → Int32} {r : List Value} (hd : decode cc pc = .ok (.arraylength, 1)) (ha : h a = .inl (t, m', f)) (q : mz_sim R s nL D aI aB A φ0 L1 xs L (.ref a :: r) n h bc bs φ ls H locs cells slots) (hX : mz_XW p l e R s m args below meth c Qf nL D aI aB A φ0 L1 xs (pc + 1) L (.int (nI m') :: r) n h bc bs) : W p l e R s m args below meth c H locs cells slots Qf (F0 m pc ls ((.ref a :: r).map (mz_mv φ))) := by
  obtain ⟨hx, hb, hml, hown, hts, hnw, hK, hA, hRO, hR, hi2, hcode, hφ⟩ := C0
  have hcl := q.clst
  have ha2 : a < n + 2 := hcl (.ref a) List.mem_cons_self
  have hkk := hX φ ls H locs cells slots (q.stk (mz_cs trivial (mz_tl hcl)))
  obtain ⟨e0, e1⟩ := q.ad0 hφ
  rcases Nat.lt_or_ge a 2 with z | z
  · rcases (show a = 0 ∨ a = 1 by omega) with rfl | rfl
    · rw [q.2.2.2.1.1] at ha
      cases ha
      have hT := hRO.1
      rw [← e0] at hT
      exact va_tlen hx hb hT q.2.1.2.2 rfl hd hkk
    · rw [q.2.2.2.1.2.1] at ha
      cases ha
      have hT := hRO.2.2
      rw [← e1] at hT
      exact va_tlen hx hb hT q.2.1.2.2 rfl hd hkk
  · obtain ⟨j, rfl⟩ : ∃ j, a = j + 2 := ⟨a - 2, by omega⟩
    have hg := mz_ws_get (aI := aI) (aB := aB) (φ := φ) (h := h) (show j < n by omega)
    rw [ha] at hg
    by_cases ht : t = 0
    · subst ht
      exact va_alen hx hb hK q.2.1.1 j 0 (cA := aI) (x := (m', .inl f)) hg (ty := .int) rfl rfl hd hkk
    · have hg2 : (mz_ws aI aB φ n h)[j]? = some (mz_ad φ (j + 2), .inl (aB, m', .inl f)) := by
        rw [hg]
        show some (mz_ad φ (j + 2), (Sum.inl (if t = 0 then aI else aB, m', .inl f) : va_E)) = _
        rw [if_neg ht]
      exact va_alen hx hb hK q.2.1.1 j 1 (cA := aB) (x := (m', .inl f)) hg2 (ty := .boolean) rfl rfl hd hkk
theorem sd_newI (C0 : mz_ctx p R s m args meth c cc nL own kind d D aI aB A φ0 L1 xs code) {k : Int32} {r : List Value} (hd : decode cc pc = .ok (.newarray .int, 2)) (hk : ¬ k < 0) (h1 : k.toNatClampNeg ≤ 1000) (h2 : 1 ≤ bc) (h3 : k.toNatClampNeg ≤ bs) (q : mz_sim R s nL D aI aB A φ0 L1 xs L (.int k :: r) n h bc bs φ ls H locs cells slots) (hX : mz_XW p l e R s m args below meth c Qf nL D aI aB A φ0 L1 xs (pc + 2) L (.ref (n + 2) :: r) (n + 1) (mz_up h (n + 2) (.inl (0, k.toNatClampNeg, fun _ => 0))) (bc - 1) (bs - k.toNatClampNeg)) : W p l e R s m args below meth c H locs cells slots Qf (F0 m pc ls ((.int k :: r).map (mz_mv φ))) := by
  obtain ⟨hx, hb, hml, hown, hts, hnw, hK, hA, hRO, hR, hi2, hcode, hφ⟩ := C0
  have hcl := q.clst
  have hb5 := q.2.2.2.2
  refine va_newa (atype := .int) hx hb (hts _ (mz_mem mz_arrok.1 rfl)) (ty := .int) rfl hK q.2.1.1 q.2.1.2.1 q.2.1.2.2 hA (a0 := (k.toNatClampNeg, .inl fun _ => 0)) (fun _ => rfl) hk rfl (by show _ * 4 ≤ _; omega) (by omega) (by omega) hd fun q0 cA H1 hK1 hP hD hS => ?_
  have e1 : aI = cA := Option.some.inj (((hK1.2 0 _ rfl).2 : s.vm.findClass _ = some aI).symm.trans ((hK1.2 2 _ rfl).2 : s.vm.findClass _ = some cA))
  subst e1
  have hz := q.2.2.1.1
  have sim := q.hnew (x := .inl (0, k.toNatClampNeg, fun _ => 0)) (st' := .ref (n + 2) :: r) hP hD hS trivial (mz_cs (show n + 2 < n + 3 by omega) (fun w hw => mz_clv_le (by omega) (mz_tl hcl w hw))) h2 h3
  have := hX _ ls H1 locs _ _ sim
  refine W.eq ?_ this
  show F0 m (pc + 2) ls (.ref q0 :: r.map (mz_mv φ)) = F0 m (pc + 2) ls (.ref (mz_ad (φ ++ [q0]) (n + 2)) :: r.map (mz_mv (φ ++ [q0])))
  rw [List.map_congr_left (fun w hw => mz_mv_app (φ := φ) (ψ := [q0]) (v := w) (by rw [hz]; exact mz_tl hcl w hw))]
  congr 3
  unfold mz_ad
  rw [List.getD_eq_getElem?_getD, List.getElem?_append_right (by omega), ← hz]
  simp
theorem sd_newB (C0 : mz_ctx p R s m args meth c cc nL own kind d D aI aB A φ0 L1 xs code) {k : Int32} {r : List Value} (hd : decode cc pc = .ok (.newarray .boolean, 2)) (hk : ¬ k < 0) (h1 : k.toNatClampNeg ≤ 1000) (h2 : 1 ≤ bc) (h3 : k.toNatClampNeg ≤ bs) (q : mz_sim R s nL D aI aB A φ0 L1 xs L (.int k :: r) n h bc bs φ ls H locs cells slots) (hX : mz_XW p l e R s m args below meth c Qf nL D aI aB A φ0 L1 xs (pc + 2) L (.ref (n + 2) :: r) (n + 1) (mz_up h (n + 2) (.inl (1, k.toNatClampNeg, fun _ => 0))) (bc - 1) (bs - k.toNatClampNeg)) : W p l e R s m args below meth c H locs cells slots Qf (F0 m pc ls ((.int k :: r).map (mz_mv φ))) := by
  obtain ⟨hx, hb, hml, hown, hts, hnw, hK, hA, hRO, hR, hi2, hcode, hφ⟩ := C0
  have hcl := q.clst
  have hb5 := q.2.2.2.2
  refine va_newa (atype := .boolean) hx hb (hts _ (mz_mem mz_arrok.2 rfl)) (ty := .boolean) rfl hK q.2.1.1 q.2.1.2.1 q.2.1.2.2 hA (a0 := (k.toNatClampNeg, .inl fun _ => 0)) (fun _ => rfl) hk rfl (by show _ * 1 ≤ _; omega) (by omega) (by omega) hd fun q0 cA H1 hK1 hP hD hS => ?_
  have e1 : aB = cA := Option.some.inj (((hK1.2 1 _ rfl).2 : s.vm.findClass _ = some aB).symm.trans ((hK1.2 2 _ rfl).2 : s.vm.findClass _ = some cA))
  subst e1
  have hz := q.2.2.1.1
  have sim := q.hnew (x := .inl (1, k.toNatClampNeg, fun _ => 0)) (st' := .ref (n + 2) :: r) hP hD hS trivial (mz_cs (show n + 2 < n + 3 by omega) (fun w hw => mz_clv_le (by omega) (mz_tl hcl w hw))) h2 h3
  have := hX _ ls H1 locs _ _ sim
  refine W.eq ?_ this
  show F0 m (pc + 2) ls (.ref q0 :: r.map (mz_mv φ)) = F0 m (pc + 2) ls (.ref (mz_ad (φ ++ [q0]) (n + 2)) :: r.map (mz_mv (φ ++ [q0])))
  rw [List.map_congr_left (fun w hw => mz_mv_app (φ := φ) (ψ := [q0]) (v := w) (by rw [hz]; exact mz_tl hcl w hw))]
  congr 3
  unfold mz_ad
  rw [List.getD_eq_getElem?_getD, List.getElem?_append_right (by omega), ← hz]
  simp
theorem sd_new (C0 : mz_ctx p R s m args meth c cc nL own kind d D aI aB A φ0 L1 xs code) {cp x y len : Nat} (hd : decode cc pc = .ok (.new cp, len)) (hk : mz_chk own kind (pc, .new cp, len, x, y) = true) (hx12 : x < 12) (h2 : 1 ≤ bc) (h3 : mz_N x ≤ bs) (q : mz_sim R s nL D aI aB A φ0 L1 xs L st n h bc bs φ ls H locs cells slots) (hX : mz_XW p l e R s m args below meth c Qf nL D aI aB A φ0 L1 xs (pc + 3) L (.ref (n + 2) :: st) (n + 1) (mz_up h (n + 2) (.inr (x, mz_df x))) (bc - 1) (bs - mz_N x)) : W p l e R s m args below meth c H locs cells slots Qf (F0 m pc ls (st.map (mz_mv φ))) := by
  obtain ⟨hx, hb, hml, hown, hts, hnw, hK, hA, hRO, hR, hi2, hcode, hφ⟩ := C0
  have hcl := q.clst
  have hb5 := q.2.2.2.2
  simp only [mz_chk, Bool.and_eq_true, List.contains_eq_mem, decide_eq_true_eq, beq_iff_eq] at hk
  obtain ⟨rfl, hk⟩ := hk
  refine va_new (ci := x) (fs := mz_df x) (C := mz_RN x) (T := mz_F x) (N := mz_N x) (Ts := mz_gw) hx hb hts (mz_uws hx12) (mz_ty x) (fun k hk => ((mz_cls1 hx12).1 k hk).2.1) hown (hts _ (mz_CLw hk)) (hts _ (mz_cls1 hx12).2.1) (hts _ (mz_cls1 hx12).2.2) hK q.2.1.1 q.2.1.2.1 q.2.1.2.2 hA (mz_clsAt hx12) (mz_dfV x hx12) (by omega) (by omega) hd fun q0 H1 hP hD hS => ?_
  have hz := q.2.2.1.1
  have e2 : (Sum.inr (x, mz_df x) : va_E) = mz_cell aI aB (φ ++ [q0]) (.inr (x, mz_df x)) := by
    show _ = (Sum.inr (x, (mz_df x).map (mz_mv (φ ++ [q0]))) : va_E)
    rw [mz_dfm]
  rw [e2] at hP hD
  have sim := q.hnew (st' := .ref (n + 2) :: st) hP hD hS mz_dfc (mz_cs (show n + 2 < n + 3 by omega) (fun w hw => mz_clv_le (by omega) (hcl w hw))) h2 h3
  have := hX _ ls H1 locs _ _ sim
  refine W.eq ?_ this
  show F0 m (pc + 3) ls (.ref q0 :: st.map (mz_mv φ)) = F0 m (pc + 3) ls (.ref (mz_ad (φ ++ [q0]) (n + 2)) :: st.map (mz_mv (φ ++ [q0])))
  rw [List.map_congr_left (fun w hw => mz_mv_app (φ := φ) (ψ := [q0]) (v := w) (by rw [hz]; exact hcl w hw))]
  congr 3
  unfold mz_ad
  rw [List.getD_eq_getElem?_getD, List.getElem?_append_right (by omega), ← hz]
  simp
/-- behind a call -/
theorem mz_call {mc ms : Nat} {r : List Value} {a : Array Value} {Q' : mz_Q} (q : mz_sim R s nL D aI aB A φ0 L1 xs L st n h bc bs φ ls H locs cells slots) (hA : ∀ q, s.heap.size ≤ q → A q) (hcr : ∀ v ∈ r, mz_clv (n + 2) v) (h1 : mc ≤ bc) (h2 : ms ≤ bs) {st0 : List Value} (hr : va_Run p l e R s m args below meth c H locs cells slots mc ms (F0 m pc ls st0) (r.map (mz_mv φ)) (mz_Qc D aI aB φ n h H.size Q' a) (va_A (mz_ws aI aB φ n h) H.size)) (hX : ∀ v n' h', Q' v n' h' → mz_XW p l e R s m args below meth c Qf nL D aI aB A φ0 L1 xs (pc + 3) L (v.toList ++ r) n' h' (bc - mc) (bs - ms)) : W p l e R s m args below meth c H locs cells slots Qf (F0 m pc ls st0) := by
  intro T hT X
  obtain ⟨v, s0, t, T', L2, h0, X', hL, e1, e2, ⟨⟨r', φ', n', h', hv, hq, ⟨ψ, hψ⟩, o1, o2, o3, o4, o5, o6, o7⟩, hz, hk⟩, stp⟩ := hr T hT X
  have hv : v = r'.map (mz_mv φ') := by cases hv; rfl
  rw [h0] at hz hk
  obtain ⟨q1, ⟨qP, qD, qS⟩, ⟨c1, c2, c3, c4⟩, ⟨r1, r2, ψ0, r3⟩, b1, b2⟩ := q
  have hfree : ∀ z, va_A (mz_ws aI aB φ n h) H.size z → A z := by
    intro z hz
    rcases hz with ⟨k, e, hk⟩ | hz
    · exact qD.2 k _ hk
    · exact hA z (Nat.le_trans qS.1 hz)
  have hle : n ≤ n' := by
    have := o1
    rw [hψ, List.length_append, c1] at this
    omega
  have sim : mz_sim R s nL D aI aB A φ0 L1 xs L (r'.toList ++ r) n' h' (bc - mc) (bs - ms) φ' ls T'.heap (locs ++ L2) (cells + mc) (slots + ms) := by
    refine ⟨by rw [hψ]; exact q1.app c1 c4, ⟨by rw [e1]; exact o6, o7.weaken (fun k z _ hz => hfree _ hz), ?_⟩, ⟨o1, o2, ?_, fun i v hv => mz_clv_le (by omega) (c4 i v hv)⟩, ⟨o4.trans r1, o5.trans r2, ψ0 ++ ψ, by rw [hψ, r3, List.append_assoc]⟩, by omega, by omega⟩
    · refine ⟨Nat.le_trans qS.1 (by rw [e1]; exact hz), fun z z1 z2 => ?_, fun z hz => ?_⟩
      · rw [e1, hk z (Nat.lt_of_lt_of_le z1 qS.1) (fun w => z2 (hfree z w))]
        exact qS.2.1 z z1 z2
      · rcases List.mem_append.mp hz with w | w
        · exact qS.2.2 z w
        · exact hfree _ (hL z w)
    · intro w hw
      rcases List.mem_append.mp hw with z | z
      · exact o3 w (by cases r' <;> simp_all)
      · exact mz_clv_le (by omega) (hcr w z)
  obtain ⟨t2, a1, b1'⟩ := hX r' n' h' hq φ' ls T'.heap (locs ++ L2) (cells + mc) (slots + ms) sim T' rfl X'
  refine ⟨t2, stp t2 ?_, b1'⟩
  have e3 : ({ F0 m pc ls st0 with pc := pc + 3, stack := v.toList ++ r.map (mz_mv φ) } : JFrame) = F0 m (pc + 3) ls ((r'.toList ++ r).map (mz_mv φ')) := by
    show F0 m (pc + 3) ls (v.toList ++ r.map (mz_mv φ)) = _
    rw [hv, List.map_append, hψ, List.map_congr_left (l := r) (fun w hw => mz_mv_app (φ := φ) (ψ := ψ) (v := w) (by rw [c1]; exact hcr w hw))]
    cases r' <;> rfl
  show Steps p.tables e below (T'.setTop ({ F0 m pc ls st0 with pc := pc + 3, stack := v.toList ++ r.map (mz_mv φ) } : JFrame)) t2
  rw [e3]
  exact a1
end MZ2
