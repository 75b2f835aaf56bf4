/-! Journeys.build -/
section JB
variable {e n : Nat} {h : mz_H} {Q : mz_Q} {z : Int32} {mo rc lz gz co jr : Nat → Int32} {bs es bm em kd : Nat → Int32} {zr fr cr wr : Nat → Int32} {mr ne : Int32} {k : Nat} {l : List Rde}
theorem goes_eq {i : Nat} {r : Rde} {J : List Jrn} (RA : RepA l bs es bm em kd) (hr : l[i]? = some r) (JR : JRep J mo rc lz gz) {c : Nat} (hc : J.length = c + 1) (h3 : rc c < nI 3) : goes ne l J i r = goI ne kd bs es bm em i := by
  cases i with
  | zero => rfl
  | succ j =>
    have hlt := (List.getElem?_eq_some_iff.mp hr).1
    obtain ⟨p, hp⟩ : ∃ p, l[j]? = some p := ⟨_, List.getElem?_eq_getElem (by omega)⟩
    obtain ⟨q, hq⟩ : ∃ q, J[c]? = some q := ⟨_, List.getElem?_eq_getElem (by omega)⟩
    obtain ⟨a1, a2, a3, a4, a5⟩ := RA j p hp
    obtain ⟨b1, b2, b3, b4, b5⟩ := RA (j + 1) r hr
    obtain ⟨-, c2, -, -⟩ := JR c q hq
    rw [c2] at h3
    show (match l[j]?, J[J.length - 1]? with
      | some p, some q => decide (nI q.2.1 < nI 3) && goR ne p r
      | _, _ => false) = goR ne (kd j, bs j, es j, bm j, em j) (kd (j + 1), bs (j + 1), es (j + 1), bm (j + 1), em (j + 1))
    rw [hp, show J.length - 1 = c by omega, hq, a1, a2, a3, a4, a5, b1, b2, b3, b4, b5]
    show (decide (nI q.2.1 < nI 3) && goR ne p r) = goR ne p r
    rw [decide_eq_true h3, Bool.true_and]
theorem goes_no {i : Nat} {r : Rde} {J : List Jrn} (JR : JRep J mo rc lz gz) {c : Nat} (hc : J.length = c + 1) (h3 : ¬ rc c < nI 3) : goes ne l J i r = false := by
  cases i with
  | zero => rfl
  | succ j =>
    obtain ⟨q, hq⟩ : ∃ q, J[c]? = some q := ⟨_, List.getElem?_eq_getElem (by omega)⟩
    obtain ⟨-, c2, -, -⟩ := JR c q hq
    rw [c2] at h3
    show (match l[j]?, J[J.length - 1]? with
      | some p, some q => decide (nI q.2.1 < nI 3) && goR ne p r
      | _, _ => false) = false
    rw [show J.length - 1 = c by omega, hq]
    cases l[j]? with
    | none => rfl
    | some p =>
      show (decide (nI q.2.1 < nI 3) && goR ne p r) = false
      rw [decide_eq_false h3, Bool.false_and]
theorem goes_nil {i : Nat} {r : Rde} : goes ne l [] i r = false := by
  cases i with
  | zero => rfl
  | succ j =>
    show (match l[j]?, ([] : List Jrn)[0 - 1]? with
      | some p, some q => decide (nI q.2.1 < nI 3) && goR ne p r
      | _, _ => false) = false
    cases l[j]? <;> rfl
theorem s_jbuild (F : Fx h) (R : RdA h l.length bs es bm em kd) (RA : RepA l bs es bm em kd) (T : TrA h 32 zr fr cr wr mr ne) (hk : l.length ≤ 48) (H : ∀ mo rc lz gz co jr, JRep (jl ne (rat 8 zr) l l.length) mo rc lz gz → (∀ j q, (jl ne (rat 8 zr) l l.length)[j]? = some q → co j = jcost fr mr q) → (∀ i, i < l.length → jr i = nI ((jl ne (rat 8 zr) l (i + 1)).length - 1)) → Q none n (jyH h (nI (jl ne (rat 8 zr) l l.length).length) mo rc lz gz co jr)) : mz_wc (e + 4) 20 [.ref 155, .ref 140, .ref 32] n (jyH h z mo rc lz gz co jr) Q := by
  refine mz_wc.enter (code := co_X3_build) (idx := 20) rfl rfl (Nat.le_of_ble_eq_true rfl) rfl rfl ?_
  refine mz_WP.run 80 rfl ?_
  refine mz_WP.putf rfl (rfl) (Nat.le_of_ble_eq_true rfl) (Nat.le_of_ble_eq_true rfl) rfl ?_
  show mz_WP _ _ _ _ _ _ _ _ _ (mz_up _ 155 (.inr (3, [.ref 156, .ref 158, .ref 160, .ref 162, .ref 164, .ref 166, .int (nI 0)]))) _ _
  rw [jy_u0]
  refine mz_WP.run 2 rfl ?_
  have two : ∀ x4 : Option Value, ∀ mo rc lz gz co jr, JRep (jl ne (rat 8 zr) l l.length) mo rc lz gz → (∀ i, i < l.length → jr i = nI ((jl ne (rat 8 zr) l (i + 1)).length - 1)) → mz_WP (mz_wc (e + 3)) (e + 3) 0 co_X3_build Q 85 [some (.ref 155), some (.ref 140), some (.ref 32), some (.int (nI l.length)), x4] [] n (jyH h (nI (jl ne (rat 8 zr) l l.length).length) mo rc lz gz co jr) 0 0 := by
    intro x4 mo rc lz gz co jr JR hj
    have hJ := jl_len ne (rat 8 zr) l l.length
    refine mz_WP.run 2 rfl ?_
    have loop2 : ∀ q i, i + q = (jl ne (rat 8 zr) l l.length).length → ∀ co, (∀ j q, j < i → (jl ne (rat 8 zr) l l.length)[j]? = some q → co j = jcost fr mr q) → mz_WP (mz_wc (e + 3)) (e + 3) 0 co_X3_build Q 87 [some (.ref 155), some (.ref 140), some (.ref 32), some (.int (nI i)), x4] [] n (jyH h (nI (jl ne (rat 8 zr) l l.length).length) mo rc lz gz co jr) 0 0 := by
      intro q
      induction q with
      | zero =>
        intro i hi co hco
        refine mz_WP.run 80 rfl ?_
        refine mz_WP.getf rfl (rfl) rfl (Nat.le_of_ble_eq_true rfl) ?_
        refine mz_WP.icmp rfl (fun c => ?_) (fun c => ?_)
        · exact mz_WP.vret rfl rfl (H mo rc lz gz co jr JR (fun j q hq => hco j q (by have := (List.getElem?_eq_some_iff.mp hq).1; omega) hq) hj)
        · exact absurd (nI_le (by omega) (by omega)) c
      | succ q ih =>
        intro i hi co hco
        obtain ⟨p, hp⟩ : ∃ p, (jl ne (rat 8 zr) l l.length)[i]? = some p := ⟨_, List.getElem?_eq_getElem (by omega)⟩
        obtain ⟨a1, a2, a3, a4⟩ := JR i p hp
        refine mz_WP.run 80 rfl ?_
        refine mz_WP.getf rfl (rfl) rfl (Nat.le_of_ble_eq_true rfl) ?_
        refine mz_WP.icmp rfl (fun c => ?_) (fun c => ?_)
        · exact absurd c (nI_ge (by omega) (by omega))
        · refine mz_WP.run 80 rfl ?_
          refine mz_WP.getf rfl (rfl) rfl (Nat.le_of_ble_eq_true rfl) ?_
          refine mz_WP.run 80 rfl ?_
          refine mz_WP.cv rfl rfl (Nat.le_of_ble_eq_true rfl) rfl (rfl) rfl (s_jwidth F (by omega) ?_)
          refine mz_WP.run 80 rfl ?_
          refine mz_WP.getf rfl (rfl) rfl (Nat.le_of_ble_eq_true rfl) ?_
          refine mz_WP.run 80 rfl ?_
          refine mz_WP.cv rfl rfl (Nat.le_of_ble_eq_true rfl) rfl (jy_F F _ _ rfl) rfl (s_at (jy_F F _ _ rfl) rfl (by decide) ?_)
          rw [rat_in (by omega) (by decide)]
          refine mz_WP.cs rfl (by decide) rfl (Nat.le_of_ble_eq_true rfl) rfl (s_busy ?_)
          refine mz_WP.cv rfl rfl (Nat.le_of_ble_eq_true rfl) rfl (T.jy.1) rfl (s_jcost T.jy ?_)
          refine mz_WP.cv rfl rfl (Nat.le_of_ble_eq_true rfl) rfl (jy_F F _ _ rfl) rfl (s_put (jy_F F _ _ rfl) rfl (by decide) (by decide) ?_)
          rw [jy_u5, rput_in (by omega) (by decide)]
          refine mz_WP.run 80 rfl ?_
          have := ih (i + 1) (by omega) (upd co i (rat 6 fr (gz i - lz i + nI 1) + (if busyB (mo i) then mr else 0))) (fun j q hj hq => by
            by_cases hji : j = i
            · subst hji
              rw [hp] at hq
              cases hq
              rw [updS, a1, a3, a4]
              rfl
            · rw [updN hji]
              exact hco j q (by omega) hq)
          rw [nI_succ] at this
          exact this
    exact loop2 _ 0 (Nat.zero_add _) co (fun j q hj => by omega)
  have loop : ∀ q i, i + q = l.length → ∀ (x4 : Option Value) (mo rc lz gz co jr), JRep (jl ne (rat 8 zr) l i) mo rc lz gz → (∀ j, j < i → jr j = nI ((jl ne (rat 8 zr) l (j + 1)).length - 1)) → mz_WP (mz_wc (e + 3)) (e + 3) 0 co_X3_build Q 7 [some (.ref 155), some (.ref 140), some (.ref 32), some (.int (nI i)), x4] [] n (jyH h (nI (jl ne (rat 8 zr) l i).length) mo rc lz gz co jr) 0 0 := by
    intro q
    induction q with
    | zero =>
      intro i hi x4 mo rc lz gz co jr JR hj
      have hi : i = l.length := by omega
      subst hi
      refine mz_WP.run 80 rfl ?_
      refine mz_WP.cv rfl rfl (Nat.le_of_ble_eq_true rfl) rfl (R.jy.1) rfl (s_rsize R.jy ?_)
      refine mz_WP.icmp rfl (fun c => ?_) (fun c => ?_)
      · exact two x4 mo rc lz gz co jr JR hj
      · exact absurd (nI_le (Nat.le_refl _) (by omega)) c
    | succ q ih =>
      intro i hi x4 mo rc lz gz co jr JR hj
      have hJ := jl_len ne (rat 8 zr) l i
      obtain ⟨r, hr⟩ : ∃ r, l[i]? = some r := ⟨_, List.getElem?_eq_getElem (by omega)⟩
      obtain ⟨r1, r2, r3, r4, r5⟩ := RA i r hr
      have hjl : jl ne (rat 8 zr) l (i + 1) = if goes ne l (jl ne (rat 8 zr) l i) i r = true then jmod (jl ne (rat 8 zr) l i) (jtake (rat 8 zr) r) else jl ne (rat 8 zr) l i ++ [jtake (rat 8 zr) r (r.2.2.2.1, 0, 5, 1)] := by
        show (match l[i]? with
          | none => jl ne (rat 8 zr) l i
          | some r => if goes ne l (jl ne (rat 8 zr) l i) i r = true then jmod (jl ne (rat 8 zr) l i) (jtake (rat 8 zr) r) else jl ne (rat 8 zr) l i ++ [jtake (rat 8 zr) r (r.2.2.2.1, 0, 5, 1)]) = _
        rw [hr]
      -- from the taking of the ride on
      have k72 : ∀ (x4 : Option Value) (J : List Jrn) (mo rc lz gz : Nat → Int32) (c : Nat), J.length = c + 1 → c < 48 → JRep J mo rc lz gz → jmod J (jtake (rat 8 zr) r) = jl ne (rat 8 zr) l (i + 1) → mz_WP (mz_wc (e + 3)) (e + 3) 0 co_X3_build Q 72 [some (.ref 155), some (.ref 140), some (.ref 32), some (.int (nI i)), x4] [] n (jyH h (nI (c + 1)) mo rc lz gz co jr) 0 0 := by
        intro x4 J mo rc lz gz c hc hc48 JR hjm
        refine mz_WP.run 80 rfl ?_
        refine mz_WP.cv rfl rfl (Nat.le_of_ble_eq_true rfl) rfl (rfl) rfl (s_takeRide (r := r) F R T hc48 (by omega) r2 r3 ?_)
        refine mz_WP.run 80 rfl ?_
        have hlen : (jl ne (rat 8 zr) l (i + 1)).length = c + 1 := by rw [← hjm, jmod_len, hc]
        have := ih (i + 1) (by omega) x4 mo _ _ _ co (upd jr i (nI c)) (by rw [← hjm]; exact JR.mod hc) (fun j hj2 => by
          by_cases hji : j = i
          · subst hji
            rw [updS, hlen, Nat.add_sub_cancel]
          · rw [updN hji]
            exact hj j (by omega))
        rw [nI_succ i, hlen] at this
        exact this
      have k60 : mz_WP (mz_wc (e + 3)) (e + 3) 0 co_X3_build Q 60 [some (.ref 155), some (.ref 140), some (.ref 32), some (.int (nI i)), some (.int (bI (goes ne l (jl ne (rat 8 zr) l i) i r)))] [.int (bI (goes ne l (jl ne (rat 8 zr) l i) i r))] n (jyH h (nI (jl ne (rat 8 zr) l i).length) mo rc lz gz co jr) 0 0 := by
        refine mz_WP.ifc rfl (fun c => ?_) (fun c => ?_)
        · have c := bI_t c
          rw [if_pos c] at hjl
          have hne : jl ne (rat 8 zr) l i ≠ [] := fun hz => by rw [hz, goes_nil] at c; exact absurd c (by decide)
          have hpos := List.length_pos_iff.mpr hne
          have hcc : (jl ne (rat 8 zr) l i).length = (jl ne (rat 8 zr) l i).length - 1 + 1 := by omega
          rw [hcc]
          exact k72 _ _ mo rc lz gz _ hcc (by omega) JR hjl.symm
        · have c := bI_f (Classical.byContradiction c)
          rw [if_neg (by rw [c]; decide)] at hjl
          refine mz_WP.run 80 rfl ?_
          refine mz_WP.cv rfl rfl (Nat.le_of_ble_eq_true rfl) rfl (R.jy.1) rfl (s_rbm (jy_F F) R.jy ?_)
          rw [rat_in (by omega) (by decide), r4]
          refine mz_WP.cv rfl rfl (Nat.le_of_ble_eq_true rfl) rfl (rfl) rfl (s_jopen F (by omega) ?_)
          exact k72 _ (jl ne (rat 8 zr) l i ++ [(r.2.2.2.1, 0, 5, 1)]) _ _ _ _ _ (by rw [List.length_append, List.length_singleton]) (by omega) (JR.app rfl) (by rw [hjl, jmod_app])
      have k55 : goes ne l (jl ne (rat 8 zr) l i) i r = false → mz_WP (mz_wc (e + 3)) (e + 3) 0 co_X3_build Q 55 [some (.ref 155), some (.ref 140), some (.ref 32), some (.int (nI i)), x4] [] n (jyH h (nI (jl ne (rat 8 zr) l i).length) mo rc lz gz co jr) 0 0 := by
        intro hg
        rw [hg] at k60
        refine mz_WP.run 80 rfl ?_
        exact k60
      refine mz_WP.run 80 rfl ?_
      refine mz_WP.cv rfl rfl (Nat.le_of_ble_eq_true rfl) rfl (R.jy.1) rfl (s_rsize R.jy ?_)
      refine mz_WP.icmp rfl (fun c => ?_) (fun c => ?_)
      · exact absurd c (nI_ge (by omega) (by omega))
      · refine mz_WP.run 80 rfl ?_
        refine mz_WP.getf rfl (rfl) rfl (Nat.le_of_ble_eq_true rfl) ?_
        refine mz_WP.ifc rfl (fun c1 => ?_) (fun c1 => ?_)
        · refine k55 ?_
          have hz : (jl ne (rat 8 zr) l i).length = 0 := by
            rcases Nat.eq_zero_or_pos (jl ne (rat 8 zr) l i).length with q | q
            · exact q
            · exact absurd c1 (nI_nle q (by omega))
          rw [List.length_eq_zero_iff.mp hz]
          exact goes_nil
        · have hpos : 0 < (jl ne (rat 8 zr) l i).length := by
            rcases Nat.eq_zero_or_pos (jl ne (rat 8 zr) l i).length with q | q
            · rw [q] at c1
              exact absurd (show nI 0 ≤ 0 from Int32.le_refl _) c1
            · exact q
          have hcc : (jl ne (rat 8 zr) l i).length = (jl ne (rat 8 zr) l i).length - 1 + 1 := by omega
          refine mz_WP.run 80 rfl ?_
          refine mz_WP.getf rfl (rfl) rfl (Nat.le_of_ble_eq_true rfl) ?_
          refine mz_WP.run 80 rfl ?_
          refine mz_WP.getf rfl (rfl) rfl (Nat.le_of_ble_eq_true rfl) ?_
          refine mz_WP.run 80 rfl ?_
          refine mz_WP.cv rfl rfl (Nat.le_of_ble_eq_true rfl) rfl (jy_F F _ _ rfl) rfl (s_at (jy_F F _ _ rfl) rfl (by decide) ?_)
          rw [show nI (jl ne (rat 8 zr) l i).length - nI 1 = nI ((jl ne (rat 8 zr) l i).length - 1) from pk_sub (by omega), rat_in (by omega) (by decide)]
          refine mz_WP.run 80 rfl ?_
          refine mz_WP.icmp rfl (fun c2 => ?_) (fun c2 => ?_)
          · have c2 : nI 3 ≤ rc ((jl ne (rat 8 zr) l i).length - 1) := c2
            exact k55 (goes_no JR hcc (Int32.not_lt.mpr c2))
          · have c2 : ¬ nI 3 ≤ rc ((jl ne (rat 8 zr) l i).length - 1) := c2
            have hgo := goes_eq (ne := ne) RA hr JR hcc (Int32.not_le.mp c2)
            refine mz_WP.run 80 rfl ?_
            refine mz_WP.cv rfl rfl (Nat.le_of_ble_eq_true rfl) rfl (T.jy.1) rfl (s_near T.jy ?_)
            refine mz_WP.cv rfl rfl (Nat.le_of_ble_eq_true rfl) rfl (R.jy.1) rfl (s_goesOn (jy_F F) R.jy (by omega) ?_)
            rw [← hgo]
            refine mz_WP.ifc rfl (fun c3 => ?_) (fun c3 => ?_)
            · exact k55 (bI_f c3)
            · rw [bI_t c3] at k60
              refine mz_WP.run 80 rfl ?_
              refine mz_WP.run 80 rfl ?_
              exact k60
  exact loop l.length 0 (by omega) none mo rc lz gz co jr (fun j q hq => by simp [jl] at hq) (fun j hj => by omega)
end JB
