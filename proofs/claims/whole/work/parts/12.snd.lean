/-! every method of the tables keeps its contract -/
theorem mz_rk1 {r : Option FieldType} (h : mz_rk r = 1) : r = some .int := by
  cases r with
  | none => exact absurd h (by decide)
  | some t => cases t <;> first | rfl | exact absurd h (by simp [mz_rk])
theorem mz_rk2 {r : Option FieldType} (h : mz_rk r = 2) : r = some .boolean := by
  cases r with
  | none => exact absurd h (by decide)
  | some t => cases t <;> first | rfl | exact absurd h (by simp [mz_rk])
theorem mz_rk0 {r : Option FieldType} (h : mz_rk r = 0) : r = none := by
  cases r with
  | none => rfl
  | some t => cases t <;> exact absurd h (by simp [mz_rk])
def mz_isO : Option FieldType → Bool
  | some (.object _) => true
  | some (.array _) => true
  | _ => false
theorem mz_rk3 : ∀ M ∈ mz_tab, mz_rk M.2.2.2.1 = 3 → mz_isO M.2.2.2.1 = true := by decide +kernel
theorem mz_isOE {r : Option FieldType} (h : mz_isO r = true) : ∃ t, r = some t ∧ ((∃ n, t = .object n) ∨ ∃ t', t = .array t') := by
  cases r with
  | none => exact absurd h Bool.false_ne_true
  | some t => cases t <;> first | exact absurd h Bool.false_ne_true | exact ⟨_, rfl, Or.inl ⟨_, rfl⟩⟩ | exact ⟨_, rfl, Or.inr ⟨_, rfl⟩⟩
set_option maxHeartbeats 4000000 in
theorem mz_snd : ∀ d, mz_Snd d (mz_wc d)
  | 0 => fun _ _ _ _ _ h => h.elim
  | d + 1 => fun idx as n h Q hw => by
    have ih := mz_snd d
    have hw : match mz_tab[idx]? with
      | some M => as.length ≤ M.2.2.1 ∧ mz_WP (mz_wc d) d (mz_rk M.2.2.2.1) M.2.2.2.2.2.2 Q 0 (mz_ini M.2.2.1 as) [] n h (mz_al idx as).1 (mz_al idx as).2
      | none => False := hw
    cases hM : mz_tab[idx]? with
    | none => rw [hM] at hw; exact hw.elim
    | some M =>
      rw [hM] at hw
      obtain ⟨hlen, hw⟩ := hw
      refine ⟨by omega, M, rfl, fun l D aI aB φ sz L1 xs hφ hcl hcas h0 h1 => ?_⟩
      obtain ⟨⟨w1, w2, w3, w4, w5⟩, n1, n2, n3, n4, n5, n6⟩ := mz_meth hM
      refine Met.ofW (cc := M.2.1) (maxL := M.2.2.1) (ret := M.2.2.2.1) n2 rfl ?_
      intro p e s m args below meth c s₁ B hml hv
      obtain ⟨rfl, hsz, hP, hK, hD0, hnw, hRO⟩ := hv
      have hx := B.exec
      have hb := B.bytes
      have hr := B.returns
      have hts := atoms_spec (ws := mz_WS M) B.pre
      have hown : s.vm.findClass (mz_RN M.2.2.2.2.1) = some m.cls := by rw [← n1]; exact findClass_of_methodNamed B.named
      have hlocks := B.notSynchronized
      have hin : meth.name = M.1.name := (name_of_methodNamed B.named B.method).1
      subst hsz
      have hD := hD0.self (sz := s.heap.size)
      have C0 : mz_ctx p (mz_rm d idx as) s m (as.map (mz_mv φ)).toArray meth c M.2.1 M.2.2.1 M.2.2.2.2.1 M.2.2.2.2.2.1 d D aI aB (va_A (mz_ws aI aB φ n h) s.heap.size) φ L1 xs M.2.2.2.2.2.2 :=
        ⟨hx, hb, hml, hown, fun w z => hts w (List.mem_cons_of_mem _ z), hnw, hK, fun q z => Or.inr z, hRO, ⟨Nat.le_refl _, Nat.le_refl _⟩, fun z => hin.trans (n4 z), fun pc q z => mz_dec n6 z, by omega⟩
      have hl := lv_entry (as.map (mz_mv φ)) (n := M.2.2.1) (by rw [mz_lgl]; exact hlen)
      rw [lg_entry_eq]
      generalize (lg_sl (as.map (mz_mv φ)) ++ List.replicate (M.2.2.1 - (lg_sl (as.map (mz_mv φ))).length) Slot.unset).toArray = ls at hl ⊢
      have sim : mz_sim (mz_rm d idx as) s M.2.2.1 D aI aB (va_A (mz_ws aI aB φ n h) s.heap.size) φ L1 xs (mz_ini M.2.2.1 as) [] n h (mz_al idx as).1 (mz_al idx as).2 φ ls s.heap [] 0 0 := by
        refine ⟨⟨hl.1, hl.2.1, mz_ini_len _ _, fun i v hv => ?_⟩, ⟨hP, hD, va_S.rf⟩, ⟨hφ, hcl, (fun _ z => by cases z), fun i v hv => hcas v (List.mem_of_getElem? (mz_ini_nth hv))⟩, ⟨h0, h1, [], (List.append_nil _).symm⟩, Nat.zero_add _, Nat.zero_add _⟩
        have := mz_lvargs (φ := φ) as 0 i v (mz_ini_nth hv)
        rw [Nat.zero_add] at this
        exact hl.2.2 _ this
      have hret : mz_Ret p l e (mz_rm d idx as) s m (as.map (mz_mv φ)).toArray below meth c (MQ below (mz_Qc D aI aB φ n h s.heap.size Q) (as.map (mz_mv φ)).toArray s (mz_al idx as).1 (mz_al idx as).2 (va_A (mz_ws aI aB φ n h) s.heap.size)) M.2.1 M.2.2.1 (mz_rk M.2.2.2.1) D aI aB (va_A (mz_ws aI aB φ n h) s.heap.size) φ L1 xs Q := by
        intro pc ins r L st n' h' bc bs φ' ls' H locs cells slots hd q hrets hQ
        obtain ⟨q1, ⟨qP, qD, qS⟩, ⟨c1, c2, c3, c4⟩, ⟨r1, r2, ψ0, r3⟩, b1, b2⟩ := q
        have b1 : cells + bc = (mz_al idx as).1 := b1
        have b2 : slots + bs = (mz_al idx as).2 := b2
        have out : (∀ v, r = some v → mz_clv (n' + 2) v) → ∀ t : State, t.heap = H → mz_Qc D aI aB φ n h s.heap.size Q (as.map (mz_mv φ)).toArray s (.returned (r.map (mz_mv φ'))) t := fun hcr t ht => ⟨⟨r, φ', n', h', rfl, hQ, ⟨ψ0, r3⟩, c1, c2, hcr, r1.trans h0.symm, r2.trans h1.symm, by rw [ht]; exact qP, qD⟩, qS.F ht⟩
        refine W.widen (k := (mz_al idx as).1) (n := (mz_al idx as).2) (by omega) (by omega) ?_
        rcases hrets with ⟨v, rfl, rfl, rfl, hk⟩ | ⟨a, rfl, rfl, rfl, hk⟩ | ⟨rfl, rfl, rfl, hk⟩
        · have o2 := out (fun w hw => by cases hw; exact trivial)
          rcases hk with hk | ⟨hk, hv⟩
          · exact W.iret hx hb (by rw [hr]; exact mz_rk1 hk) (fun t ht hW => o2 t ht) qS.2.2 hd hlocks
          · exact W.zret hx hb (ty := .boolean) (by rw [hr]; exact mz_rk2 hk) (by rcases hv with rfl | rfl <;> rfl) (fun t ht hW => o2 t ht) qS.2.2 hd hlocks
        · have o2 := out (fun w hw => by cases hw; exact c3 _ List.mem_cons_self)
          obtain ⟨t, e1, e2⟩ := mz_isOE (mz_rk3 M (List.mem_of_getElem? hM) hk)
          exact W.aret hx hb (rt := t) (by rw [hr]; exact e1) e2 (Or.inr ⟨_, rfl⟩) (fun t ht hW => o2 t ht) qS.2.2 hd hlocks
        · have o2 := out (fun w hw => by cases hw)
          exact W.vret hx hb (by rw [hr]; exact mz_rk0 hk) (fun t ht hW => o2 t ht) qS.2.2 hd hlocks
      exact hw _ (mz_walk C0 ih hret) φ ls s.heap [] 0 0 sim
