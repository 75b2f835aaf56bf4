/-! the calls; the whole walk; every method's contract -/
theorem mz_MLk : ∀ e ∈ mz_ML, e.2.2.2 < 6 → (match mz_tab[e.2.2.1]? with
  | some M => M.2.2.2.2.2.1 = e.2.2.2 / 2
  | none => False) := by
  have h : mz_ML.all (fun e => decide (6 ≤ e.2.2.2) || (match mz_tab[e.2.2.1]? with
    | some M => M.2.2.2.2.2.1 == e.2.2.2 / 2
    | none => false)) = true := by decide +kernel
  intro e he hl
  have h1 := List.all_eq_true.mp h e he
  simp only [Bool.or_eq_true, decide_eq_true_eq] at h1
  have h2 := h1.resolve_left (by omega)
  revert h2
  cases mz_tab[e.2.2.1]? with
  | none => exact fun z => by cases z
  | some M => exact fun z => by simpa using z
theorem mz_good {M : mz_M} {idx : Nat} (h : mz_tab[idx]? = some M) : GoodIn mz_gw (mz_WS M) := by
  intro w hw
  have hm : w ∈ mz_gw := (List.mem_cons.mp hw).elim (fun z => z ▸ (mz_meth h).1.1) (fun z => z)
  exact ⟨hm, mz_gwS hm⟩
theorem mz_rroom {φ : List Nat} : ∀ (r : List Value), ((r.map (mz_mv φ)).map fun v => v.category).sum = r.length
  | [] => rfl
  | v :: r => by
    rw [List.map_cons, List.map_cons, List.sum_cons, mz_mv_cat, mz_rroom r, List.length_cons]
    omega
section MZ3
variable {p : Program} {l : Launch} {e : Env} {R : Room} {s : State} {m : MethodId} {args : Array Value} {below : List Frame} {meth : Method} {c : Code} {Qf : State → Prop}
variable {cc : ByteArray} {nL own kind d rk : Nat} {D : va_G} {aI aB : ClassId} {A : Nat → Prop} {φ0 : List Nat} {L1 : Nat} {xs : Nat → Int32} {code : List mz_I} {K : mz_K} {Q : mz_Q}
variable {L : List (Option Value)} {st : List Value} {n : Nat} {h : mz_H} {bc bs : Nat} {φ : List Nat} {ls : Array Slot} {H : Heap} {locs : List Loc} {cells slots pc : Nat}
theorem mz_inOf (C0 : mz_ctx p R s m args meth c cc nL own kind d D aI aB A φ0 L1 xs code) (q : mz_sim R s nL D aI aB A φ0 L1 xs L st n h bc bs φ ls H locs cells slots) : ∀ U : State, U.heap = H → s.WarmedH U.vm → mz_In D aI aB φ n h H.size L1 xs U := by
  obtain ⟨hx, hb, hml, hown, hts, hnw, hK, hA, hRO, hR, hi2, hcode, hφ⟩ := C0
  obtain ⟨e0, e1⟩ := q.ad0 hφ
  intro U hU hW
  obtain ⟨qP, qD, qS⟩ := q.2.1
  refine ⟨by rw [hU], by rw [hU]; exact qP, va_K.moved hW.alike hK, qD.weaken (fun _ _ _ _ => trivial), mz_nwW hW hnw, ?_⟩
  rw [e0, e1, hU]
  refine hRO.to hW.alike qS.2.1 (fun z hz => ?_)
  rcases hz with ⟨k, e, hk⟩ | hz
  · exact qD.2 k _ hk
  · exact hA z (Nat.le_trans qS.1 hz)
theorem sd_inv (C0 : mz_ctx p R s m args meth c cc nL own kind d D aI aB A φ0 L1 xs code) (hK : mz_Snd d K) {ins : Instr} {cp x y : Nat} (hins : (ins = .invokevirtual cp ∧ (y = 0 ∨ y = 1)) ∨ (ins = .invokestatic cp ∧ (y = 2 ∨ y = 3)) ∨ (ins = .invokespecial cp ∧ (y = 4 ∨ y = 5))) (hd : decode cc pc = .ok (ins, 3)) (hml' : (own, cp, x, y) ∈ mz_ML) {k rc : Nat} (hk : k = mz_np.getD x 0 + (if y / 2 = 1 then 0 else 1)) (hrc : rc = (if y / 2 = 0 then 1 else if y / 2 = 1 then 0 else 2)) (q : mz_sim R s nL D aI aB A φ0 L1 xs L st n h bc bs φ ls H locs cells slots) (hX : mz_inv K (mz_XW p l e R s m args below meth c Qf nL D aI aB A φ0 L1 xs) pc L st n h bc bs x k rc) : W p l e R s m args below meth c H locs cells slots Qf (F0 m pc ls (st.map (mz_mv φ))) := by
  have hInn := mz_inOf C0 q
  obtain ⟨hx, hb, hml, hown, hts, hnw, hK0, hA, hRO, hR, hi2, hcode, hφ⟩ := C0
  unfold mz_inv at hX
  cases hs : mz_spl k st [] with
  | none => rw [hs] at hX; exact hX.elim
  | some z =>
    obtain ⟨as, r⟩ := z
    rw [hs] at hX
    obtain ⟨hr8, hrc1, hrc2, hb1, hb2, hcall⟩ := hX
    obtain ⟨hst, hlen⟩ := mz_spl_spec hs
    have hst : st = as.reverse ++ r := hst
    have hlen : as.length = k := by simpa using hlen
    have hcl := q.clst
    have hcas : ∀ v ∈ as, mz_clv (n + 2) v := fun v hv => hcl v (by rw [hst]; exact List.mem_append_left _ (List.mem_reverse.mpr hv))
    have hcr : ∀ v ∈ r, mz_clv (n + 2) v := fun v hv => hcl v (by rw [hst]; exact List.mem_append_right _ hv)
    obtain ⟨hd1, M, hM, hMet⟩ := hK _ _ _ _ _ hcall
    have hMt := hMet l D aI aB φ H.size L1 xs q.2.2.1.1 q.2.2.1.2.1 hcas q.2.2.2.1.1 q.2.2.2.1.2.1
    obtain ⟨⟨w1, w2, w3, w4, w5⟩, n1, n2, n3, n4, n5, -⟩ := mz_meth hM
    have hyM := mz_yat hM
    have hy6 : y < 6 := by rcases hins with ⟨-, z⟩ | ⟨-, z⟩ | ⟨-, z⟩ <;> omega
    have hkd := mz_MLk _ hml' hy6
    dsimp only at hkd
    rw [hM] at hkd
    have hRR : (mz_rm (d - 1) x as).frames + 1 ≤ R.frames ∧ 8 + (M.2.2.1 + 11) + (mz_rm (d - 1) x as).locals ≤ R.locals := by
      show d - 1 + 1 ≤ R.frames ∧ 8 + (M.2.2.1 + 11) + 30 * (d - 1) ≤ R.locals
      omega
    have hbud := q.2.2.2.2
    have hf : cells + (mz_al x as).1 ≤ R.cells ∧ slots + (mz_al x as).2 ≤ R.slots := by omega
    have hroom : 2 * (F0 m pc ls (st.map (mz_mv φ))).monitorRoom + ((r.map (mz_mv φ)).map fun v => v.category).sum ≤ 8 := lv_room (by rw [mz_rroom]; exact hr8)
    have hsz : (F0 m pc ls (st.map (mz_mv φ))).locals.size = nL := q.1.1
    have hin2 : ∀ U : State, U.heap = H → s.WarmedH U.vm → mz_Pc D aI aB φ n h H.size L1 xs as (as.map (mz_mv φ)).toArray U := fun U hU hW => ⟨rfl, hInn U hU hW⟩
    have hstm : st.map (mz_mv φ) = (as.map (mz_mv φ)).reverse ++ r.map (mz_mv φ) := by rw [hst, List.map_append, List.map_reverse]
    rcases hins with ⟨rfl, hy⟩ | ⟨rfl, hy⟩ | ⟨rfl, hy⟩
    · have hy2 : y / 2 = 0 := by omega
      rw [hy2] at hkd hk hrc
      obtain ⟨a, as', fs, rfl, hra⟩ : ∃ (a : Nat) (as' : List Value) (fs : List Value), as = .ref a :: as' ∧ h a = .inr (mz_own x, fs) := hrc1 (by rw [hrc]; rfl)
      have hn : (as'.map (mz_mv φ)).length = mz_np.getD x 0 := by
        rw [List.length_map]
        rw [List.length_cons, hk] at hlen
        simpa using hlen
      have ha2 : a < n + 2 := hcas (.ref a) List.mem_cons_self
      have hge : 2 ≤ a := by
        rcases Nat.lt_or_ge a 2 with z | z
        · rcases (show a = 0 ∨ a = 1 by omega) with rfl | rfl
          · rw [q.2.2.2.1.1] at hra; cases hra
          · rw [q.2.2.2.1.2.1] at hra; cases hra
        · exact z
      obtain ⟨j, rfl⟩ : ∃ j, a = j + 2 := ⟨a - 2, by omega⟩
      have hg := mz_ws_get (aI := aI) (aB := aB) (φ := φ) (h := h) (show j < n by omega)
      rw [hra] at hg
      have hox : mz_own x = M.2.2.2.2.1 := by unfold mz_own; rw [hM]
      have hclx : mz_cls[mz_own x]? = some (mz_RN (mz_own x), mz_F (mz_own x), mz_N (mz_own x)) := by
        obtain ⟨rr, h1, -⟩ := q.2.1.1 j _ hg
        have : mz_own x < 12 := (List.getElem?_eq_some_iff.mp h1).1
        exact mz_clsAt this
      have hrecv := va_recv hK0 q.2.1.1 hclx hg
      have hst2 : (F0 m pc ls (st.map (mz_mv φ))).stack = (as'.map (mz_mv φ)).reverse ++ .ref (mz_ad φ (j + 2)) :: r.map (mz_mv φ) := by
        show st.map (mz_mv φ) = _
        rw [hstm]
        simp [mz_mv]
      have hpV : PreV s H M.1.cls (mz_ad φ (j + 2)) (mz_Pc D aI aB φ n h H.size L1 xs (.ref (j + 2) :: as')) (as'.map (mz_mv φ)) := ⟨mz_Pc.blind, by rw [n1, ← hox]; exact hrecv, fun U hU hW => hin2 U hU hW⟩
      rcases hy with rfl | rfl
      · have hlk := hts _ (mz_MLw0 hml' (by omega))
        rw [hyM] at hlk
        exact mz_call q hA hcr hb1 hb2 (va_runV ⟨hx, hb, hml, hown, hts⟩ hMt ⟨callB_of (mz_np.getD x 0) hts (mz_good hM) rfl rfl rfl (hts _ w2) hlk n3 hRR, hts _ (w4 (by omega)), hts _ (w5 (by omega))⟩ hpV rfl hn hsz hst2 hroom hd hf) (fun _ _ _ z => z)
      · have hlk := hnw _ (mz_MLw1 hml' (by omega))
        rw [hyM] at hlk
        exact mz_call q hA hcr hb1 hb2 (va_runVN ⟨hx, hb, hml, hown, hts⟩ hMt ⟨va_cnB (mz_np.getD x 0) hts (mz_good hM) rfl rfl rfl hlk (hts _ w2) n3 hRR, hts _ (w4 (by omega)), hts _ (w5 (by omega))⟩ hpV rfl hn hsz hst2 hroom hd hf) (fun _ _ _ z => z)
    · have hy2 : y / 2 = 1 := by omega
      rw [hy2] at hkd hk hrc
      have hn : (as.map (mz_mv φ)).length = mz_np.getD x 0 := by
        rw [List.length_map, hlen, hk]
        simp
      rcases hy with rfl | rfl
      · have hlk := hts _ (mz_MLw0 hml' (by omega))
        rw [hyM] at hlk
        exact mz_call q hA hcr hb1 hb2 (va_runS ⟨hx, hb, hml, hown, hts⟩ hMt ⟨callB_of (mz_np.getD x 0) hts (mz_good hM) rfl rfl rfl (hts _ w2) hlk n3 hRR, hts _ (w3 (by omega))⟩ ⟨mz_Pc.blind, hin2⟩ rfl hn hsz hstm hroom hd hf) (fun _ _ _ z => z)
      · have hlk := hnw _ (mz_MLw1 hml' (by omega))
        rw [hyM] at hlk
        exact mz_call q hA hcr hb1 hb2 (va_runSN ⟨hx, hb, hml, hown, hts⟩ hMt ⟨va_cnB (mz_np.getD x 0) hts (mz_good hM) rfl rfl rfl hlk (hts _ w2) n3 hRR, hts _ (w3 (by omega)), trivial⟩ ⟨mz_Pc.blind, hin2⟩ rfl hn hsz hstm hroom hd hf) (fun _ _ _ z => z)
    · have hy2 : y / 2 = 2 := by omega
      rw [hy2] at hkd hk hrc
      obtain ⟨a, as', rfl⟩ : ∃ (a : Nat) (as' : List Value), as = .ref a :: as' := hrc2 (by rw [hrc]; rfl)
      have hn : (as'.map (mz_mv φ)).length = mz_np.getD x 0 := by
        rw [List.length_map]
        rw [List.length_cons, hk] at hlen
        simpa using hlen
      have hst2 : (F0 m pc ls (st.map (mz_mv φ))).stack = (as'.map (mz_mv φ)).reverse ++ .ref (mz_ad φ a) :: r.map (mz_mv φ) := by
        show st.map (mz_mv φ) = _
        rw [hstm]
        simp [mz_mv]
      have hret : M.2.2.2.1 = none := by
        have key : ∀ M ∈ mz_tab, M.2.2.2.2.2.1 = 2 → M.2.2.2.1 = none := by decide +kernel
        exact key M (List.mem_of_getElem? hM) hkd
      have hws : mz_WS M = Cond.code M.1 M.2.1 M.2.2.1 none :: mz_gw := by unfold mz_WS; rw [hret]
      rcases hy with rfl | rfl
      · have hlk := hts _ (mz_MLw0 hml' (by omega))
        rw [hyM] at hlk
        exact mz_call q hA hcr hb1 hb2 (va_runI ⟨hx, hb, hml, hown, hts⟩ hMt ⟨callB_of (mz_np.getD x 0) hts (mz_good hM) hws rfl rfl (hts _ w2) hlk n3 hRR, n4 hkd, hts _ (w4 (by omega))⟩ ⟨mz_Pc.blind, hin2⟩ rfl hn hsz hst2 hroom hd hf) (fun _ _ _ z => z)
      · have hlk := hnw _ (mz_MLw1 hml' (by omega))
        rw [hyM] at hlk
        exact mz_call q hA hcr hb1 hb2 (va_runIN ⟨hx, hb, hml, hown, hts⟩ hMt ⟨va_cnB (mz_np.getD x 0) hts (mz_good hM) hws rfl rfl hlk (hts _ w2) n3 hRR, n4 hkd, hts _ (w4 (by omega))⟩ ⟨mz_Pc.blind, hin2⟩ rfl hn hsz hst2 hroom hd hf) (fun _ _ _ z => z)
end MZ3
