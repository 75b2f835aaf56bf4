/-! the reference: journeys laid -/
def mRows (h : mz_H) (kd st sp bg en lm : Nat → Int32) : Prop := h 190 = .inl (0, 48, kd) ∧ h 191 = .inl (0, 48, st) ∧ h 192 = .inl (0, 48, sp) ∧ h 193 = .inl (0, 48, bg) ∧ h 194 = .inl (0, 48, en) ∧ h 195 = .inl (1, 48, lm)
def jRows (h : mz_H) (jo fi le wi co : Nat → Int32) : Prop := h 196 = .inl (0, 48, jo) ∧ h 197 = .inl (0, 48, fi) ∧ h 198 = .inl (0, 48, le) ∧ h 199 = .inl (0, 48, wi) ∧ h 200 = .inl (0, 48, co)
theorem mRows.to {h h' : mz_H} {kd st sp bg en lm : Nat → Int32} (R : mRows h kd st sp bg en lm) (hh : ∀ b, 190 ≤ b → b ≤ 195 → h' b = h b) : mRows h' kd st sp bg en lm := by
  obtain ⟨e0, e1, e2, e3, e4, e5⟩ := R
  exact ⟨(hh _ (by omega) (by omega)).trans e0, (hh _ (by omega) (by omega)).trans e1, (hh _ (by omega) (by omega)).trans e2, (hh _ (by omega) (by omega)).trans e3, (hh _ (by omega) (by omega)).trans e4, (hh _ (by omega) (by omega)).trans e5⟩
theorem jRows.to {h h' : mz_H} {jo fi le wi co : Nat → Int32} (R : jRows h jo fi le wi co) (hh : ∀ b, 196 ≤ b → b ≤ 200 → h' b = h b) : jRows h' jo fi le wi co := by
  obtain ⟨e0, e1, e2, e3, e4⟩ := R
  exact ⟨(hh _ (by omega) (by omega)).trans e0, (hh _ (by omega) (by omega)).trans e1, (hh _ (by omega) (by omega)).trans e2, (hh _ (by omega) (by omega)).trans e3, (hh _ (by omega) (by omega)).trans e4⟩
/-- what stands when the journeys of the rides l are laid -/
def MJ (h : mz_H) (g : Nat → Int32) (l : List Rde) : Prop := ∃ kd st sp bg en lm jo fi le wi co : Nat → Int32, h 186 = mo (nI l.length) (nI (gJ g l).length) ∧ mRows h kd st sp bg en lm ∧ jRows h jo fi le wi co ∧ RepA l st sp bg en kd ∧ LmP l lm ∧ (∀ i, i < l.length → jo i = nI ((jl (g 412) (rat 8 (zG g)) l (i + 1)).length - 1)) ∧ (∀ j q, (gJ g l)[j]? = some q → ∃ f w, f < l.length ∧ fi j = nI f ∧ bg f = q.1 ∧ le j = nI q.2.1 ∧ 1 ≤ w ∧ w ≤ 5 ∧ jwid q = nI w ∧ wi j = nI w ∧ co j = jcost (frG g) (g 411) q)
section MJ3
variable {e n : Nat} {h : mz_H} {Q : mz_Q} {g : Nat → Int32} {r j : Int32}
theorem WFc.st {c k : Nat} (Wc : WFc g c k) : ∀ q, q < k → ∃ a, a < 8 ∧ gS g c q = nI a := fun q hq => by
  obtain ⟨a, b, ha, hb, hw⟩ := Wc.2.2.2.1 q hq
  refine ⟨a, ha, ?_⟩
  unfold gS
  rw [hw, (gsy ha hb).1]
theorem r_layRides {c k : Nat} (Wc : WFc g c k) (hc : c < 4) (ho : h 186 = mo r j) (hg : h 187 = .inl (0, 423, g)) (S : mrS h) (H : ∀ h1 kd st sp bg en lm, h1 186 = mo (nI (gL g c k).length) j → mRows h1 kd st sp bg en lm → RepA (gL g c k) st sp bg en kd → LmP (gL g c k) lm → (∀ b, b ≠ 186 → (b < 190 ∨ 195 < b) → h1 b = h b) → Q none n h1) : mz_wc (e + 2) 136 [.ref 186, .int (nI c)] n h Q := by
  obtain ⟨kd, st, sp, bg, en, lm, e0, e1, e2, e3, e4, e5⟩ := S
  have E := mr_id ho e0 e1 e2 e3 e4 e5
  have G : mz_wc (e + 2) 136 [.ref 186, .int (nI c)] n (mrH h r j kd st sp bg en lm) Q := by
    refine m_layRides Wc hc hg (fun kd st sp bg en lm R M => H _ kd st sp bg en lm rfl ⟨rfl, rfl, rfl, rfl, rfl, rfl⟩ R M (fun b h1 h2 => mr_lt ⟨h1, h2⟩))
  rw [E] at G
  exact G
theorem WF.zn (W : WF g) : znP (rat 8 (zG g)) := fun s hs => by
  obtain ⟨z, z1, z2, z3⟩ := W.2.1 s hs
  refine ⟨z, z1, z2, ?_⟩
  rw [rat_in hs (by decide)]
  exact z3
theorem m_layJ {c k : Nat} (W : WF g) (Wc : WFc g c k) (hc : c < 4) (ho : h 186 = mo r j) (hg : h 187 = .inl (0, 423, g)) (S1 : mrS h) (S2 : mjS h) (H : ∀ h', MJ h' g (gL g c k) → (∀ b, b ≠ 186 → (b < 190 ∨ 200 < b) → h' b = h b) → Q none n h') : mz_wc (e + 3) 141 [.ref 186, .int (nI c)] n h Q := by
  refine mz_wc.enter (code := co_X11_layJourneys) (idx := 141) rfl rfl (Nat.le_of_ble_eq_true rfl) rfl rfl ?_
  refine mz_WP.run 80 rfl ?_
  refine mz_WP.cv rfl rfl (Nat.le_of_ble_eq_true rfl) rfl (ho) rfl (r_layRides Wc hc ho hg S1 (fun h1 kd st sp bg en lm ho1 R1 RA LM o1 => ?_))
  have hl : (gL g c k).length ≤ 48 := Nat.le_trans (rl_len k _ _ _ k) Wc.1
  have RPs : ∀ p ∈ gL g c k, RP p := rl_RP Wc.st k (Nat.le_refl k)
  have hz := W.zn
  generalize hgl : gL g c k = l at *
  have hg1 : h1 187 = .inl (0, 423, g) := (o1 187 (by omega) (by omega)).trans hg
  obtain ⟨jo, fi, le, wi, co, e6, e7, e8, e9, e10⟩ := S2
  have e6 := (o1 196 (by omega) (by omega)).trans e6
  have e7 := (o1 197 (by omega) (by omega)).trans e7
  have e8 := (o1 198 (by omega) (by omega)).trans e8
  have e9 := (o1 199 (by omega) (by omega)).trans e9
  have e10 := (o1 200 (by omega) (by omega)).trans e10
  have E := mj_id ho1 e6 e7 e8 e9 e10
  obtain ⟨r0, r1, r2, r3, r4, r5⟩ := R1
  have l0 : ∀ {r j jo fi le wi co}, mjH h1 r j jo fi le wi co 190 = .inl (0, 48, kd) := fun {r j jo fi le wi co} => (mj_lt (by omega)).trans r0
  have l1 : ∀ {r j jo fi le wi co}, mjH h1 r j jo fi le wi co 191 = .inl (0, 48, st) := fun {r j jo fi le wi co} => (mj_lt (by omega)).trans r1
  have l2 : ∀ {r j jo fi le wi co}, mjH h1 r j jo fi le wi co 192 = .inl (0, 48, sp) := fun {r j jo fi le wi co} => (mj_lt (by omega)).trans r2
  have l3 : ∀ {r j jo fi le wi co}, mjH h1 r j jo fi le wi co 193 = .inl (0, 48, bg) := fun {r j jo fi le wi co} => (mj_lt (by omega)).trans r3
  have l4 : ∀ {r j jo fi le wi co}, mjH h1 r j jo fi le wi co 194 = .inl (0, 48, en) := fun {r j jo fi le wi co} => (mj_lt (by omega)).trans r4
  have l5 : ∀ {r j jo fi le wi co}, mjH h1 r j jo fi le wi co 195 = .inl (1, 48, lm) := fun {r j jo fi le wi co} => (mj_lt (by omega)).trans r5
  have lg : ∀ {r j jo fi le wi co}, mjH h1 r j jo fi le wi co 187 = .inl (0, 423, g) := fun {r j jo fi le wi co} => (mj_lt (by omega)).trans hg1
  have hJ48 : (gJ g l).length ≤ 48 := Nat.le_trans (jl_len _ _ l l.length) hl
  -- the second loop
  have loop2 : ∀ q jj jo fi le wi co, jj + q = (gJ g l).length → JM (rat 8 (zG g)) l l.length (gJ g l) fi le → (∀ i, i < l.length → jo i = nI ((jl (g 412) (rat 8 (zG g)) l (i + 1)).length - 1)) → (∀ i q, i < jj → (gJ g l)[i]? = some q → wi i = jwid q ∧ co i = jcost (frG g) (g 411) q) → mz_WP (mz_wc (e + 2)) (e + 2) 0 co_X11_layJourneys Q 108 [some (.ref 186), some (.int (nI c)), some (.int (nI jj))] [] n (mjH h1 (nI l.length) (nI (gJ g l).length) jo fi le wi co) 0 0 := by
    intro q
    induction q with
    | zero =>
      intro jj jo fi le wi co hi JMl hjo hw
      have hi : jj = (gJ g l).length := by omega
      subst hi
      refine mz_WP.run 80 rfl ?_
      refine mz_WP.getf rfl (rfl) rfl (Nat.le_of_ble_eq_true rfl) ?_
      refine mz_WP.icmp rfl (fun cc => ?_) (fun cc => ?_)
      · refine mz_WP.vret rfl rfl (H _ ⟨kd, st, sp, bg, en, lm, jo, fi, le, wi, co, rfl, ⟨l0, l1, l2, l3, l4, l5⟩, ⟨rfl, rfl, rfl, rfl, rfl⟩, RA, LM, hjo, fun i q hq => ?_⟩ (fun b b1 b2 => (mj_lt (by omega)).trans (o1 b b1 (by omega))))
        have hlt := (List.getElem?_eq_some_iff.mp hq).1
        obtain ⟨f, a1, a2, a3, a4, -, a6⟩ := JMl i q hq
        obtain ⟨w1, w2⟩ := hw i q hlt hq
        obtain ⟨w, x1, x2, x3, -⟩ := jseg_w hz RPs (f := f) a4 a3
        rw [← a6] at x3
        obtain ⟨p, hp⟩ := geti (show f < l.length by omega)
        refine ⟨f, w, by omega, a1, ?_, a2, x1, x2, x3, by rw [w1, x3], w2⟩
        rw [(RA f p hp).2.2.2.1, a6, jseg_1]
        unfold jbeg
        rw [hp]
      · exact absurd (nI_le (Nat.le_refl _) (by omega)) cc
    | succ q ih =>
      intro jj jo fi le wi co hi JMl hjo hw
      refine mz_WP.run 80 rfl ?_
      refine mz_WP.getf rfl (rfl) rfl (Nat.le_of_ble_eq_true rfl) ?_
      refine mz_WP.icmp rfl (fun cc => ?_) (fun cc => ?_)
      · exact absurd cc (nI_ge (by omega) (by omega))
      obtain ⟨q0, hq⟩ := geti (show jj < (gJ g l).length by omega)
      obtain ⟨f, a1, a2, a3, a4, -, a6⟩ := JMl jj q0 hq
      obtain ⟨w, x1, x2, x3, -⟩ := jseg_w hz RPs (f := f) a4 a3
      rw [← a6] at x3
      obtain ⟨p, hp⟩ := geti (show f < l.length by omega)
      have hbg : bg f = q0.1 := by
        rw [(RA f p hp).2.2.2.1, a6, jseg_1]
        unfold jbeg
        rw [hp]
      refine mz_WP.run 80 rfl ?_
      refine mz_WP.getf rfl (rfl) rfl (Nat.le_of_ble_eq_true rfl) ?_
      refine mz_WP.run 80 rfl ?_
      refine mz_WP.cv rfl rfl (Nat.le_of_ble_eq_true rfl) rfl (rfl) rfl (m_width rfl lg l1 l2 l5 rfl rfl a1 a2 (by omega) a4 a3 hl RA LM RPs hz ?_)
      rw [← a6]
      refine mz_WP.asN rfl rfl (by omega) rfl (by omega) (by decide) ?_
      rw [mj_u4]
      refine mz_WP.run 80 rfl ?_
      refine mz_WP.getf rfl (rfl) rfl (Nat.le_of_ble_eq_true rfl) ?_
      refine mz_WP.run 80 rfl ?_
      refine mz_WP.getf rfl (rfl) rfl (Nat.le_of_ble_eq_true rfl) ?_
      refine mz_WP.run 80 rfl ?_
      refine mz_WP.getf rfl (rfl) rfl (Nat.le_of_ble_eq_true rfl) ?_
      refine mz_WP.run 80 rfl ?_
      refine mz_WP.alN rfl rfl rfl (by omega) (by decide) ?_
      rw [updS]
      refine mz_WP.run 80 rfl ?_
      refine mz_WP.alN (k := 395 + w) rfl lg (by rw [x3, nI_add, pk_sub (by omega)]; congr 1; omega) (by omega) (by decide) ?_
      refine mz_WP.run 80 rfl ?_
      refine mz_WP.getf rfl (rfl) rfl (Nat.le_of_ble_eq_true rfl) ?_
      refine mz_WP.run 80 rfl ?_
      refine mz_WP.getf rfl (rfl) rfl (Nat.le_of_ble_eq_true rfl) ?_
      refine mz_WP.run 80 rfl ?_
      refine mz_WP.alN rfl rfl rfl (by omega) (by decide) ?_
      rw [a1]
      refine mz_WP.alN rfl l3 rfl (by omega) (by decide) ?_
      rw [hbg]
      refine mz_WP.cs rfl (by decide) rfl (Nat.le_of_ble_eq_true rfl) rfl (m_busy ?_)
      have hj : jcost (frG g) (g 411) q0 = g (395 + w) + (if busyB q0.1 then g 411 else 0) := by
        unfold jcost
        rw [show q0.2.2.2 - q0.2.2.1 + nI 1 = nI w from x3, rat_in (by omega) (by decide)]
        congr 1
        unfold frG
        rw [if_neg (by omega)]
      have fin : ∀ x, g (395 + w) + x = jcost (frG g) (g 411) q0 → mz_WP (mz_wc (e + 2)) (e + 2) 0 co_X11_layJourneys Q 178 [some (.ref 186), some (.int (nI c)), some (.int (nI jj))] [.int x, .int (g (395 + w)), .int (nI jj), .ref 200] n (mjH h1 (nI l.length) (nI (gJ g l).length) jo fi le (upd wi jj (jwid q0)) co) 0 0 := by
        intro x hx
        refine mz_WP.run 80 rfl ?_
        rw [hx]
        refine mz_WP.asN rfl rfl (by omega) rfl (by omega) (by decide) ?_
        rw [mj_u5]
        refine mz_WP.run 80 rfl ?_
        have nx := ih (jj + 1) jo fi le (upd wi jj (jwid q0)) (upd co jj (jcost (frG g) (g 411) q0)) (by omega) JMl hjo (fun i q hij hqi => by
          by_cases hij2 : i = jj
          · subst hij2
            rw [hq] at hqi
            cases hqi
            rw [updS, updS]
            exact ⟨rfl, rfl⟩
          · rw [updN hij2, updN hij2]
            exact hw i q (by omega) hqi)
        rw [nI_succ jj] at nx
        exact nx
      refine mz_WP.ifc rfl (fun cb => ?_) (fun cb => ?_)
      · have cb := bI_f cb
        rw [cb, if_neg (by decide)] at hj
        refine mz_WP.run 1 rfl ?_
        exact fin _ (by rw [hj, nI_0])
      · have cb := bI_t cb
        rw [cb, if_pos rfl] at hj
        refine mz_WP.run 80 rfl ?_
        refine mz_WP.getf rfl (rfl) rfl (Nat.le_of_ble_eq_true rfl) ?_
        refine mz_WP.run 80 rfl ?_
        refine mz_WP.alN (k := 411) rfl lg rfl (by omega) (by decide) ?_
        refine mz_WP.run 1 rfl ?_
        exact fin _ hj.symm
  -- the first loop
  have loop1 : ∀ q i jo fi le wi co, i + q = l.length → JM (rat 8 (zG g)) l i (jl (g 412) (rat 8 (zG g)) l i) fi le → (∀ i', i' < i → jo i' = nI ((jl (g 412) (rat 8 (zG g)) l (i' + 1)).length - 1)) → mz_WP (mz_wc (e + 2)) (e + 2) 0 co_X11_layJourneys Q 12 [some (.ref 186), some (.int (nI c)), some (.int (nI i))] [] n (mjH h1 (nI l.length) (nI (jl (g 412) (rat 8 (zG g)) l i).length) jo fi le wi co) 0 0 := by
    intro q
    induction q with
    | zero =>
      intro i jo fi le wi co hi JMl hjo
      have hi : i = l.length := by omega
      subst hi
      refine mz_WP.run 80 rfl ?_
      refine mz_WP.getf rfl (rfl) rfl (Nat.le_of_ble_eq_true rfl) ?_
      refine mz_WP.icmp rfl (fun cc => ?_) (fun cc => ?_)
      · refine mz_WP.run 2 rfl ?_
        exact loop2 (gJ g l).length 0 jo fi le wi co (by omega) JMl hjo (fun i q hij => by omega)
      · exact absurd (nI_le (Nat.le_refl _) (by omega)) cc
    | succ q ih =>
      intro i jo fi le wi co hi JMl hjo
      have hJl := jl_len (g 412) (rat 8 (zG g)) l i
      obtain ⟨p, hp⟩ := geti (show i < l.length by omega)
      have hst := jl_st (near := g 412) (zn := rat 8 (zG g)) hp
      refine mz_WP.run 80 rfl ?_
      refine mz_WP.getf rfl (rfl) rfl (Nat.le_of_ble_eq_true rfl) ?_
      refine mz_WP.icmp rfl (fun cc => ?_) (fun cc => ?_)
      · exact absurd cc (nI_ge (by omega) (by omega))
      have hJ : ∀ i', i = i' + 1 → ∃ c q, (jl (g 412) (rat 8 (zG g)) l i).length = c + 1 ∧ c < 48 ∧ (jl (g 412) (rat 8 (zG g)) l i)[c]? = some q ∧ jo i' = nI c ∧ le c = nI q.2.1 := by
        intro i' hi'
        subst hi'
        have hpos := jl_pos (near := g 412) (zn := rat 8 (zG g)) (show i' < l.length by omega)
        obtain ⟨q, hq⟩ := geti (show (jl (g 412) (rat 8 (zG g)) l (i' + 1)).length - 1 < (jl (g 412) (rat 8 (zG g)) l (i' + 1)).length by omega)
        obtain ⟨f, a1, a2, a3, a4, a5, a6⟩ := JMl _ q hq
        exact ⟨_, q, by omega, by omega, hq, hjo i' (by omega), a2⟩
      refine mz_WP.run 80 rfl ?_
      refine mz_WP.cv rfl rfl (Nat.le_of_ble_eq_true rfl) rfl (rfl) rfl (m_goesOn rfl lg l0 l1 l2 l3 l4 rfl rfl RA RPs hl hp hJ ?_)
      refine mz_WP.ifc rfl (fun cg => ?_) (fun cg => ?_)
      · have cg := bI_f cg
        rw [cg, if_neg (by decide)] at hst
        refine mz_WP.run 80 rfl ?_
        refine mz_WP.getf rfl (rfl) rfl (Nat.le_of_ble_eq_true rfl) ?_
        refine mz_WP.run 80 rfl ?_
        refine mz_WP.getf rfl (rfl) rfl (Nat.le_of_ble_eq_true rfl) ?_
        refine mz_WP.asN rfl rfl (by omega) rfl (by omega) (by decide) ?_
        rw [mj_u1]
        refine mz_WP.run 80 rfl ?_
        refine mz_WP.getf rfl (rfl) rfl (Nat.le_of_ble_eq_true rfl) ?_
        refine mz_WP.run 80 rfl ?_
        refine mz_WP.getf rfl (rfl) rfl (Nat.le_of_ble_eq_true rfl) ?_
        refine mz_WP.run 80 rfl ?_
        refine mz_WP.asN rfl rfl (by omega) rfl (by omega) (by decide) ?_
        rw [mj_u2]
        refine mz_WP.run 80 rfl ?_
        refine mz_WP.getf rfl (rfl) rfl (Nat.le_of_ble_eq_true rfl) ?_
        refine mz_WP.run 80 rfl ?_
        refine mz_WP.getf rfl (rfl) rfl (Nat.le_of_ble_eq_true rfl) ?_
        refine mz_WP.run 80 rfl ?_
        refine mz_WP.asN rfl rfl (by omega) rfl (by omega) (by decide) ?_
        rw [mj_u3]
        refine mz_WP.run 80 rfl ?_
        refine mz_WP.getf rfl (rfl) rfl (Nat.le_of_ble_eq_true rfl) ?_
        refine mz_WP.run 80 rfl ?_
        rw [nI_add]
        refine mz_WP.putf rfl (rfl) (Nat.le_of_ble_eq_true rfl) (Nat.le_of_ble_eq_true rfl) rfl ?_
        have nx := ih (i + 1) (upd jo i (nI (jl (g 412) (rat 8 (zG g)) l i).length)) (upd fi (jl (g 412) (rat 8 (zG g)) l i).length (nI i)) (upd le (jl (g 412) (rat 8 (zG g)) l i).length (nI 1)) wi co (by omega) (by rw [hst]; exact JMl.app hp rfl) (fun i' hi' => by
          by_cases hii : i' = i
          · subst hii
            rw [updS, hst, List.length_append, List.length_singleton, Nat.add_sub_cancel]
          · rw [updN hii]
            exact hjo i' (by omega))
        rw [hst, List.length_append, List.length_singleton, nI_succ i, ← mj_u0 (r := nI l.length) (j := nI (jl (g 412) (rat 8 (zG g)) l i).length)] at nx
        refine mz_WP.run 80 rfl ?_
        exact nx
      · have cg := bI_t cg
        rw [cg, if_pos rfl] at hst
        obtain ⟨i', hii⟩ : ∃ i', i = i' + 1 := ⟨i - 1, by have := (goes_J cg).2; omega⟩
        obtain ⟨c', q', k1, k2, k3, k4, k5⟩ := hJ i' hii
        refine mz_WP.run 80 rfl ?_
        refine mz_WP.getf rfl (rfl) rfl (Nat.le_of_ble_eq_true rfl) ?_
        refine mz_WP.run 80 rfl ?_
        refine mz_WP.getf rfl (rfl) rfl (Nat.le_of_ble_eq_true rfl) ?_
        refine mz_WP.run 80 rfl ?_
        refine mz_WP.alN (k := i') rfl rfl (by rw [hii, pk_sub (by omega)]; rfl) (by omega) (by decide) ?_
        rw [k4]
        refine mz_WP.asN rfl rfl (by omega) rfl (by omega) (by decide) ?_
        rw [mj_u1]
        refine mz_WP.run 80 rfl ?_
        refine mz_WP.getf rfl (rfl) rfl (Nat.le_of_ble_eq_true rfl) ?_
        refine mz_WP.run 80 rfl ?_
        refine mz_WP.getf rfl (rfl) rfl (Nat.le_of_ble_eq_true rfl) ?_
        refine mz_WP.run 80 rfl ?_
        refine mz_WP.alN (k := i) rfl rfl rfl (by omega) (by decide) ?_
        rw [updS]
        refine mz_WP.run 80 rfl ?_
        refine mz_WP.alN (k := c') rfl rfl rfl (by omega) (by decide) ?_
        refine mz_WP.run 80 rfl ?_
        refine mz_WP.asN rfl rfl (by omega) rfl (by omega) (by decide) ?_
        rw [mj_u3]
        refine mz_WP.run 80 rfl ?_
        refine mz_WP.run 80 rfl ?_
        have nx := ih (i + 1) (upd jo i (nI c')) fi (upd le c' (le c' + nI 1)) wi co (by omega) (by rw [hst]; exact JMl.mod hp k1) (fun i2 hi2 => by
          by_cases hii2 : i2 = i
          · subst hii2
            rw [updS, hst, jmod_len, k1, Nat.add_sub_cancel]
          · rw [updN hii2]
            exact hjo i2 (by omega))
        rw [hst, jmod_len, nI_succ i] at nx
        exact nx
  have start := loop1 l.length 0 jo fi le wi co (by omega) (fun i q hq => by cases hq) (fun i' hi' => by omega)
  have u := mj_u0 (h0 := h1) (r := nI l.length) (j := j) (jo := jo) (fi := fi) (le := le) (wi := wi) (co := co) (r2 := nI l.length) (j2 := nI 0)
  rw [E] at u
  have start : mz_WP (mz_wc (e + 2)) (e + 2) 0 co_X11_layJourneys Q 12 [some (.ref 186), some (.int (nI c)), some (.int (nI 0))] [] n (mjH h1 (nI l.length) (nI 0) jo fi le wi co) 0 0 := start
  rw [← u] at start
  refine mz_WP.run 80 rfl ?_
  refine mz_WP.putf rfl (ho1) (Nat.le_of_ble_eq_true rfl) (Nat.le_of_ble_eq_true rfl) rfl ?_
  refine mz_WP.run 2 rfl ?_
  exact start
end MJ3
