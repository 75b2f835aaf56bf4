/-! the reference: image, restore, count, would -/
theorem kp_get : ∀ kp, kp < 4 → ∀ k, k < 2 → ∀ i, i < 2 → kpS kp k / 2 ^ i % 2 = if i = k then 1 else kp / 2 ^ i % 2 := by decide
/-- g' is g, as far as anybody looks -/
def GE (g g' : Nat → Int32) : Prop := (∀ c, c < 4 → g' (384 + c) = g (384 + c)) ∧ (∀ c k, c < 4 → WFc g c k → ∀ j, j < k → gm g' c j = gm g c j ∧ gw g' c j = gw g c j) ∧ (∀ x, 388 ≤ x → x < 423 → g' x = g x)
theorem GE.of {g g' : Nat → Int32} (hh : ∀ x, x < 423 → g' x = g x) : GE g g' := ⟨fun c hc => hh _ (by omega), fun c k hc W j hj => by
  have := W.1
  exact ⟨hh _ (by omega), hh _ (by omega)⟩, fun x _ h2 => hh x h2⟩
section MP4
variable {e n : Nat} {h h' : mz_H} {Q : mz_Q} {g g' : Nat → Int32} {kp : Nat} {gi : Nat → Nat → Int32}
theorem WFc.ge {c k : Nat} (W : WFc g c k) (hc : c < 4) (G : GE g g') : WFc g' c k := by
  have G2 := G.2.1 c k hc W
  obtain ⟨w1, w2, w3, w4, w5⟩ := W
  exact ⟨w1, (G.1 c hc).trans w2, fun j hj => by rw [(G2 j hj).1]; exact w3 j hj, fun j hj => by rw [(G2 j hj).2]; exact w4 j hj, fun i j hi hj => by rw [(G2 i (by omega)).1, (G2 j hj).1]; exact w5 i j hi hj⟩
theorem WF.ge (W : WF g) (G : GE g g') : WF g' := by
  obtain ⟨w1, w2, w3, w4⟩ := W
  refine ⟨fun c hc => ?_, fun i hi => ?_, ?_, fun r hr => ?_⟩
  · obtain ⟨k, Wc⟩ := w1 c hc
    exact ⟨k, Wc.ge hc G⟩
  · rw [G.2.2 _ (by omega) (by omega)]
    exact w2 i hi
  · rw [G.2.2 _ (by omega) (by omega)]
    exact w3
  · rw [G.2.2 _ (by omega) (by omega)]
    exact w4 r hr
theorem Rep.ge {S : Nat} (R : Rep S h g) (G : GE g g') : Rep S h g' := by
  obtain ⟨r1, r2, r3⟩ := R
  refine ⟨fun c hc => ?_, r2.gg (fun x h1 h2 => G.2.2 x h1 (by omega)), r3.gg (fun x h1 h2 => G.2.2 x (by omega) (by omega))⟩
  obtain ⟨k, Wc, m, s, w, T, r⟩ := r1 c hc
  have G2 := G.2.1 c k hc Wc
  refine ⟨k, Wc.ge hc G, m, s, w, T, fun j hj => ?_⟩
  obtain ⟨q1, q2, q3⟩ := r j hj
  refine ⟨by rw [(G2 j hj).1]; exact q1, ?_, ?_⟩
  · rw [q2]
    unfold gS
    rw [(G2 j hj).2]
  · rw [q3]
    unfold gY
    rw [(G2 j hj).2]
theorem CI.ge (C : CI h g kp gi) (G : GE g g') : CI h g' kp gi := by
  obtain ⟨c1, c2, c3, c4, c5, c6⟩ := C
  exact ⟨c1, c2, c3, c4.ge G, c5.ge G, c6⟩
theorem CI.lo (C : CI h g kp gi) (hh : ∀ b, b < 186 → h' b = h b) : CI h' g kp gi := by
  obtain ⟨c1, c2, c3, c4, c5, ⟨z, m, s, w, c6⟩, c7, c8, c9, c10⟩ := C
  refine ⟨fun a c hc => ?_, c2.to (fun b _ _ => hh b (by omega)), (hh 2 (by omega)).trans c3, c4, c5.to (fun b _ h2 => hh b (by omega)), ⟨z, m, s, w, c6.to (fun b _ h2 => hh b (by omega))⟩, c7.to (fun b _ h2 => hh b (by omega)), c8.to (fun b _ h2 => hh b (by omega)), c9, fun i hi hk => ⟨(c10 i hi hk).1, (c10 i hi hk).2.to (fun b _ h2 => hh b (by omega))⟩⟩
  have ha : a < 186 := by
    have hm := fxf_mem hc
    have hall : ∀ x ∈ fxl, x.1 < 186 := by
      have hb : fxl.all (fun x => decide (x.1 < 186)) = true := rfl
      exact fun x hx => of_decide_eq_true (List.all_eq_true.mp hb x hx)
    exact hall _ hm
  rw [hh a ha]
  exact c1 a c hc
theorem m_image {x : Int32} (M : MI h g kp gi) (hkp : kp < 4) (H : ∀ h', MI h' g (imageK kp x) (imageI g gi x) → (∀ b, b < 186 → h' b = h b) → Q (some (.int (imageR x))) n h') : mz_wc (e + 7) 155 [.ref 186, .int x] n h Q := by
  obtain ⟨⟨r, j, ho⟩, hg, ⟨im, him, xim⟩, ⟨kk, hkk, xkk⟩, s1, s2, s3⟩ := id M
  refine mz_wc.enter (code := co_X11_image) (idx := 155) rfl rfl (Nat.le_of_ble_eq_true rfl) rfl rfl ?_
  refine mz_WP.run 80 rfl ?_
  refine mz_WP.cs rfl (by decide) rfl (Nat.le_of_ble_eq_true rfl) rfl (m_in ?_)
  refine mz_WP.ifc rfl (fun c1 => ?_) (fun c1 => ?_)
  rotate_left
  · have c1 := bI_f (Classical.byContradiction c1)
    rw [imageK, imageI, if_pos c1, if_pos c1] at H
    have H := H h M (fun _ _ => rfl)
    rw [imageR, if_pos c1] at H
    refine mz_WP.run 80 rfl ?_
    exact mz_WP.ret rfl rfl H
  have c1 := bI_t c1
  have c1f : ¬ inB x (nI 0) (nI 1) = false := by rw [c1]; decide
  rw [imageK, imageI, imageR, if_neg c1f, if_neg c1f, if_neg c1f] at H
  obtain ⟨k, -, hk, rfl⟩ := inB_of (by decide) (by omega) c1
  have hk : k < 2 := by omega
  rw [nI_clamp (by omega)] at H
  have loop : ∀ q i (f : Nat → Int32), i + q = 423 → (∀ a, f a = if 423 * k ≤ a ∧ a < 423 * k + i then g (a - 423 * k) else im a) → mz_WP (mz_wc (e + 6)) (e + 6) 1 co_X11_image Q 14 [some (.ref 186), some (.int (nI k)), some (.int (nI i))] [] n (mz_up h 188 (.inl (0, 846, f))) 0 0 := by
    intro q
    induction q with
    | zero =>
      intro i f hi hf
      have hi : i = 423 := by omega
      subst hi
      refine mz_WP.run 80 rfl ?_
      refine mz_WP.icmp rfl (fun cc => ?_) (fun cc => ?_)
      · refine mz_WP.run 80 rfl ?_
        refine mz_WP.getf rfl ((mz_up_n (by omega)).trans ho) rfl (Nat.le_of_ble_eq_true rfl) ?_
        refine mz_WP.run 80 rfl ?_
        refine mz_WP.bsN true rfl ((mz_up_n (by omega)).trans hkk) (by omega) rfl hk (by decide) nI1 ?_
        refine mz_WP.run 80 rfl ?_
        refine mz_WP.ret rfl rfl (H _ ⟨⟨r, j, (mz_up_n (by omega)).trans ((mz_up_n (by omega)).trans ho)⟩, (mz_up_n (by omega)).trans ((mz_up_n (by omega)).trans hg), ⟨f, (mz_up_n (by omega)).trans mz_up_s, fun i hi hb y hy => ?_⟩, ⟨_, mz_up_s, fun i hi => ?_⟩, s1.to (fun b _ _ => (mz_up_n (by omega)).trans (mz_up_n (by omega))), s2.to (fun b _ _ => (mz_up_n (by omega)).trans (mz_up_n (by omega))), s3.to (fun b _ _ => (mz_up_n (by omega)).trans (mz_up_n (by omega)))⟩ (fun b hb => (mz_up_n (by omega)).trans (mz_up_n (by omega))))
        · rw [hf]
          by_cases hik : i = k
          · subst hik
            rw [if_pos (by omega), show 423 * i + y - 423 * i = y by omega]
            exact (congrFun (if_pos rfl : (if i = i then g else gi i) = g) y).symm
          · have hkp2 := kp_set kp hkp k hk i hi hb hik
            rw [if_neg (by omega), xim i hi hkp2 y hy]
            exact (congrFun (if_neg hik : (if i = k then g else gi i) = gi i) y).symm
        · rw [kp_get kp hkp k hk i hi]
          by_cases hik : i = k
          · subst hik
            rw [updS, if_pos rfl]
            exact nI1.symm
          · rw [updN hik, if_neg hik]
            exact xkk i hi
      · exact absurd (nI_le (Nat.le_refl _) (by decide)) cc
    | succ q ih =>
      intro i f hi hf
      refine mz_WP.run 80 rfl ?_
      refine mz_WP.icmp rfl (fun cc => ?_) (fun cc => ?_)
      · exact absurd cc (nI_ge (by omega) (by decide))
      refine mz_WP.run 80 rfl ?_
      refine mz_WP.getf rfl ((mz_up_n (by omega)).trans ho) rfl (Nat.le_of_ble_eq_true rfl) ?_
      refine mz_WP.run 80 rfl ?_
      refine mz_WP.getf rfl ((mz_up_n (by omega)).trans ho) rfl (Nat.le_of_ble_eq_true rfl) ?_
      refine mz_WP.run 80 rfl ?_
      refine mz_WP.alN rfl ((mz_up_n (by omega)).trans hg) rfl (by omega) (by decide) ?_
      refine mz_WP.asN (k := 423 * k + i) rfl mz_up_s (by omega) (by rw [pk_mul, nI_add]) (by omega) (by decide) ?_
      rw [mz_up_up]
      refine mz_WP.run 80 rfl ?_
      have nx := ih (i + 1) (upd f (423 * k + i) (g i)) (by omega) (fun a => by
        by_cases ha : a = 423 * k + i
        · subst ha
          rw [updS, if_pos (by omega), show 423 * k + i - 423 * k = i by omega]
        · rw [updN ha, hf]
          by_cases h2 : 423 * k ≤ a ∧ a < 423 * k + i
          · rw [if_pos h2, if_pos (by omega)]
          · rw [if_neg h2, if_neg (by omega)])
      rw [nI_succ i] at nx
      exact nx
  have start := loop 423 0 im rfl (fun a => (if_neg (by omega)).symm)
  rw [mz_up_id him] at start
  refine mz_WP.run 2 rfl ?_
  exact start
theorem m_restore {x : Int32} (M : MI h g kp gi) (H : ∀ h' g', MI h' g' kp gi → GE (restG g kp gi x) g' → (∀ b, b < 186 → h' b = h b) → Q (some (.int (restR kp x))) n h') : mz_wc (e + 7) 156 [.ref 186, .int x] n h Q := by
  obtain ⟨⟨r, j, ho⟩, hg, ⟨im, him, xim⟩, ⟨kk, hkk, xkk⟩, s1, s2, s3⟩ := id M
  refine mz_wc.enter (code := co_X11_restore) (idx := 156) rfl rfl (Nat.le_of_ble_eq_true rfl) rfl rfl ?_
  refine mz_WP.run 80 rfl ?_
  refine mz_WP.cs rfl (by decide) rfl (Nat.le_of_ble_eq_true rfl) rfl (m_in ?_)
  refine mz_WP.ifc rfl (fun c1 => ?_) (fun c1 => ?_)
  rotate_left
  · have c1 := bI_f (Classical.byContradiction c1)
    have H := H h g M (GE.of (fun y _ => by rw [restG, if_pos c1])) (fun _ _ => rfl)
    rw [restR, if_pos c1] at H
    refine mz_WP.run 80 rfl ?_
    exact mz_WP.ret rfl rfl H
  have c1 := bI_t c1
  have c1f : ¬ inB x (nI 0) (nI 1) = false := by rw [c1]; decide
  rw [restR, restG, if_neg c1f, if_neg c1f] at H
  obtain ⟨k, -, hk, rfl⟩ := inB_of (by decide) (by omega) c1
  have hk : k < 2 := by omega
  rw [nI_clamp (by omega)] at H
  refine mz_WP.run 80 rfl ?_
  refine mz_WP.getf rfl (ho) rfl (Nat.le_of_ble_eq_true rfl) ?_
  refine mz_WP.run 80 rfl ?_
  refine mz_WP.blN rfl hkk rfl hk (by decide) ?_
  rw [xkk k hk]
  have hbit : kp / 2 ^ k % 2 < 2 := by omega
  refine mz_WP.ifc rfl (fun c2 => ?_) (fun c2 => ?_)
  rotate_left
  · have c2 : nI (kp / 2 ^ k % 2) = 0 := Classical.byContradiction c2
    have c2 : kp / 2 ^ k % 2 = 0 := (nI_eq (by omega) (by omega)).mp (c2.trans nI_0.symm)
    rw [if_pos c2, if_pos c2] at H
    have H := H h g M (GE.of (fun y _ => rfl)) (fun _ _ => rfl)
    refine mz_WP.run 80 rfl ?_
    exact mz_WP.ret rfl rfl H
  have c2 : ¬ nI (kp / 2 ^ k % 2) = 0 := c2
  have c2f : ¬ kp / 2 ^ k % 2 = 0 := fun z => c2 (by rw [z, nI_0])
  rw [if_neg c2f, if_neg c2f] at H
  have hb1 : kp / 2 ^ k % 2 = 1 := by omega
  have loop : ∀ q i (f : Nat → Int32), i + q = 423 → (∀ a, a < i → f a = gi k a) → mz_WP (mz_wc (e + 6)) (e + 6) 1 co_X11_restore Q 26 [some (.ref 186), some (.int (nI k)), some (.int (nI i))] [] n (mz_up h 187 (.inl (0, 423, f))) 0 0 := by
    intro q
    induction q with
    | zero =>
      intro i f hi hf
      have hi : i = 423 := by omega
      subst hi
      refine mz_WP.run 80 rfl ?_
      refine mz_WP.icmp rfl (fun cc => ?_) (fun cc => ?_)
      · refine mz_WP.run 80 rfl ?_
        exact mz_WP.ret rfl rfl (H _ f M.st (GE.of hf) (fun b hb => mz_up_n (by omega)))
      · exact absurd (nI_le (Nat.le_refl _) (by decide)) cc
    | succ q ih =>
      intro i f hi hf
      refine mz_WP.run 80 rfl ?_
      refine mz_WP.icmp rfl (fun cc => ?_) (fun cc => ?_)
      · exact absurd cc (nI_ge (by omega) (by decide))
      refine mz_WP.run 80 rfl ?_
      refine mz_WP.getf rfl ((mz_up_n (by omega)).trans ho) rfl (Nat.le_of_ble_eq_true rfl) ?_
      refine mz_WP.run 80 rfl ?_
      refine mz_WP.getf rfl ((mz_up_n (by omega)).trans ho) rfl (Nat.le_of_ble_eq_true rfl) ?_
      refine mz_WP.run 80 rfl ?_
      refine mz_WP.alN (k := 423 * k + i) rfl ((mz_up_n (by omega)).trans him) (by rw [pk_mul, nI_add]) (by omega) (by decide) ?_
      rw [xim k hk hb1 i (by omega)]
      refine mz_WP.asN rfl mz_up_s (by omega) rfl (by omega) (by decide) ?_
      rw [mz_up_up]
      refine mz_WP.run 80 rfl ?_
      have nx := ih (i + 1) (upd f i (gi k i)) (by omega) (fun a ha => by
        by_cases h2 : a = i
        · subst h2
          rw [updS]
        · rw [updN h2]
          exact hf a (by omega))
      rw [nI_succ i] at nx
      exact nx
  have start := loop 423 0 g rfl (fun a ha => by omega)
  rw [mz_up_id hg] at start
  refine mz_WP.run 2 rfl ?_
  exact start
theorem m_lagging (M : MI h g kp gi) (H : Q (some (.int (lagN g 4))) n h) : mz_wc (e + 1) 157 [.ref 186] n h Q := by
  obtain ⟨⟨r, j, ho⟩, hg, -⟩ := id M
  refine mz_wc.enter (code := co_X11_lagging) (idx := 157) rfl rfl (Nat.le_of_ble_eq_true rfl) rfl rfl ?_
  refine mz_WP.run 4 rfl ?_
  have loop : ∀ q i, i + q = 4 → mz_WP (mz_wc e) e 1 co_X11_lagging Q 4 [some (.ref 186), some (.int (lagN g i)), some (.int (nI i))] [] n h 0 0 := by
    intro q
    induction q with
    | zero =>
      intro i hi
      have hi : i = 4 := by omega
      subst hi
      refine mz_WP.run 80 rfl ?_
      refine mz_WP.icmp rfl (fun cc => ?_) (fun cc => ?_)
      · refine mz_WP.run 80 rfl ?_
        exact mz_WP.ret rfl rfl H
      · exact absurd (nI_le (Nat.le_refl _) (by decide)) cc
    | succ q ih =>
      intro i hi
      have nx := ih (i + 1) (by omega)
      have nx : mz_WP (mz_wc e) e 1 co_X11_lagging Q 4 [some (.ref 186), some (.int (if g (415 + i) < g 414 then lagN g i + nI 1 else lagN g i)), some (.int (nI (i + 1)))] [] n h 0 0 := nx
      rw [nI_succ i] at nx
      refine mz_WP.run 80 rfl ?_
      refine mz_WP.icmp rfl (fun cc => ?_) (fun cc => ?_)
      · exact absurd cc (nI_ge (by omega) (by decide))
      refine mz_WP.run 80 rfl ?_
      refine mz_WP.getf rfl (ho) rfl (Nat.le_of_ble_eq_true rfl) ?_
      refine mz_WP.run 80 rfl ?_
      refine mz_WP.alN rfl hg (nI_add _ _) (by omega) (by decide) ?_
      refine mz_WP.run 80 rfl ?_
      refine mz_WP.getf rfl (ho) rfl (Nat.le_of_ble_eq_true rfl) ?_
      refine mz_WP.run 80 rfl ?_
      refine mz_WP.alN (k := 414) rfl hg rfl (by omega) (by decide) ?_
      refine mz_WP.icmp rfl (fun c1 => ?_) (fun c1 => ?_)
      · rw [if_neg (Int32.not_lt.mpr c1)] at nx
        refine mz_WP.run 80 rfl ?_
        rw [show lagN g i + nI 0 = lagN g i by rw [nI_0, Int32.add_zero]]
        exact nx
      · rw [if_pos (Int32.not_le.mp c1)] at nx
        refine mz_WP.run 80 rfl ?_
        refine mz_WP.run 80 rfl ?_
        exact nx
  exact loop 4 0 rfl
theorem m_allBest (M : MI h g kp gi) (W : WF g) (H : ∀ h', MI h' g kp gi → (∀ b, b < 186 → h' b = h b) → Q (some (.int (allC g 4))) n h') : mz_wc (e + 6) 158 [.ref 186] n h Q := by
  refine mz_wc.enter (code := co_X11_allBest) (idx := 158) rfl rfl (Nat.le_of_ble_eq_true rfl) rfl rfl ?_
  refine mz_WP.run 4 rfl ?_
  have loop : ∀ q i h1, i + q = 4 → MI h1 g kp gi → (∀ b, b < 186 → h1 b = h b) → mz_WP (mz_wc (e + 5)) (e + 5) 1 co_X11_allBest Q 4 [some (.ref 186), some (.int (allC g i)), some (.int (nI i))] [] n h1 0 0 := by
    intro q
    induction q with
    | zero =>
      intro i h1 hi M o
      have hi : i = 4 := by omega
      subst hi
      refine mz_WP.run 80 rfl ?_
      refine mz_WP.icmp rfl (fun cc => ?_) (fun cc => ?_)
      · refine mz_WP.run 80 rfl ?_
        exact mz_WP.ret rfl rfl (H h1 M o)
      · exact absurd (nI_le (Nat.le_refl _) (by decide)) cc
    | succ q ih =>
      intro i h1 hi M o
      obtain ⟨⟨r, j, ho⟩, hg, -, -, s1, s2, s3⟩ := id M
      obtain ⟨k, Wc⟩ := W.1 i (by omega)
      refine mz_WP.run 80 rfl ?_
      refine mz_WP.icmp rfl (fun cc => ?_) (fun cc => ?_)
      · exact absurd cc (nI_ge (by omega) (by decide))
      refine mz_WP.run 80 rfl ?_
      refine mz_WP.cv rfl rfl (Nat.le_of_ble_eq_true rfl) rfl (ho) rfl (r_layDays W Wc (by omega) ho hg s1 s2 s3 (fun h2 D o2 => ?_))
      have nx := ih (i + 1) h2 (by omega) (M.days D o2) (fun b hb => (o2 b (by omega) (by omega)).trans (o b hb))
      obtain ⟨J, su, wd, ow, la, wk, iw, ⟨d1, d2, d3, d4, d5, d6⟩, -, hla, -, -⟩ := D
      obtain ⟨⟨r', j', ho1⟩, -, -⟩ := J.S
      have hC : costC g i = la 0 := by
        unfold costC costV kL
        rw [Wc.k, hla]
      have nx : mz_WP (mz_wc (e + 5)) (e + 5) 1 co_X11_allBest Q 4 [some (.ref 186), some (.int (allC g i + costC g i)), some (.int (nI (i + 1)))] [] n h2 0 0 := nx
      rw [nI_succ i, hC] at nx
      refine mz_WP.run 80 rfl ?_
      refine mz_WP.getf rfl (ho1) rfl (Nat.le_of_ble_eq_true rfl) ?_
      refine mz_WP.run 80 rfl ?_
      refine mz_WP.alN (k := 0) rfl d4 rfl (by omega) (by decide) ?_
      refine mz_WP.run 80 rfl ?_
      exact nx
  exact loop 4 0 h rfl M (fun _ _ => rfl)
theorem kp_sum : ∀ kp, kp < 4 → (if nI (kp / 2 ^ 0 % 2) = 0 then nI 0 else nI 1) + (if nI (kp / 2 ^ 1 % 2) = 0 then nI 0 else nI 2) = nI kp := by decide
theorem m_count {what : Int32} (M : MI h g kp gi) (W : WF g) (hkp : kp < 4) (H : ∀ h', MI h' g kp gi → (∀ b, b < 186 → h' b = h b) → Q (some (.int (countR g kp what))) n h') : mz_wc (e + 7) 159 [.ref 186, .int what] n h Q := by
  have H0 := H h M (fun _ _ => rfl)
  obtain ⟨⟨r, j, ho⟩, hg, -, ⟨kk, hkk, xkk⟩, -⟩ := id M
  unfold countR at H H0
  refine mz_wc.enter (code := co_X11_count) (idx := 159) rfl rfl (Nat.le_of_ble_eq_true rfl) rfl rfl ?_
  refine mz_WP.run 80 rfl ?_
  refine mz_WP.cs rfl (by decide) rfl (Nat.le_of_ble_eq_true rfl) rfl (m_isCard ?_)
  refine mz_WP.ifc rfl (fun c1 => ?_) (fun c1 => ?_)
  rotate_left
  · have c1 := bI_t c1
    rw [if_pos c1] at H0
    obtain ⟨k, -, hk, rfl⟩ := inB_of (by decide) (by omega) c1
    rw [nI_clamp (by omega)] at H0
    refine mz_WP.run 80 rfl ?_
    refine mz_WP.getf rfl (ho) rfl (Nat.le_of_ble_eq_true rfl) ?_
    refine mz_WP.run 80 rfl ?_
    refine mz_WP.alN rfl hg (nI_add _ _) (by omega) (by decide) ?_
    exact mz_WP.ret rfl rfl H0
  have c1 : ¬ inB what (nI 0) (nI 3) = true := by rw [bI_f c1]; decide
  rw [if_neg c1] at H H0
  refine mz_WP.run 80 rfl ?_
  refine mz_WP.cs rfl (by decide) rfl (Nat.le_of_ble_eq_true rfl) rfl (m_in ?_)
  refine mz_WP.ifc rfl (fun c2 => ?_) (fun c2 => ?_)
  rotate_left
  · have c2 := bI_t c2
    rw [if_pos c2] at H0
    obtain ⟨k, hk1, hk, rfl⟩ := inB_of (by decide) (by omega) c2
    rw [pk_sub hk1, nI_clamp (by omega)] at H0
    refine mz_WP.run 80 rfl ?_
    refine mz_WP.getf rfl (ho) rfl (Nat.le_of_ble_eq_true rfl) ?_
    refine mz_WP.run 80 rfl ?_
    refine mz_WP.alN (k := 415 + (k - 10)) rfl hg (by rw [nI_add, pk_sub (by omega)]; congr 1; omega) (by omega) (by decide) ?_
    exact mz_WP.ret rfl rfl H0
  have c2 : ¬ inB what (nI 10) (nI 13) = true := by rw [bI_f c2]; decide
  rw [if_neg c2] at H H0
  refine mz_WP.run 80 rfl ?_
  refine mz_WP.cs rfl (by decide) rfl (Nat.le_of_ble_eq_true rfl) rfl (m_in ?_)
  refine mz_WP.ifc rfl (fun c3 => ?_) (fun c3 => ?_)
  rotate_left
  · have c3 := bI_t c3
    rw [if_pos c3] at H0
    obtain ⟨k, hk1, hk, rfl⟩ := inB_of (by decide) (by omega) c3
    rw [pk_sub hk1, nI_clamp (by omega)] at H0
    refine mz_WP.run 80 rfl ?_
    refine mz_WP.getf rfl (ho) rfl (Nat.le_of_ble_eq_true rfl) ?_
    refine mz_WP.run 80 rfl ?_
    refine mz_WP.alN (k := 388 + (k - 20)) rfl hg (by rw [nI_add, pk_sub (by omega)]; congr 1; omega) (by omega) (by decide) ?_
    exact mz_WP.ret rfl rfl H0
  have c3 : ¬ inB what (nI 20) (nI 27) = true := by rw [bI_f c3]; decide
  rw [if_neg c3] at H H0
  refine mz_WP.run 80 rfl ?_
  by_cases w4 : what = nI 4
  · rw [if_pos w4] at H0
    subst w4
    refine mz_WP.tin (off := 35) rfl (by decide) (by decide) ?_
    refine mz_WP.run 80 rfl ?_
    refine mz_WP.getf rfl (ho) rfl (Nat.le_of_ble_eq_true rfl) ?_
    refine mz_WP.run 80 rfl ?_
    refine mz_WP.alN (k := 414) rfl hg rfl (by omega) (by decide) ?_
    exact mz_WP.ret rfl rfl H0
  rw [if_neg w4] at H H0
  by_cases w5 : what = nI 5
  · rw [if_pos w5] at H0
    subst w5
    refine mz_WP.tin (off := 44) rfl (by decide) (by decide) ?_
    refine mz_WP.run 80 rfl ?_
    refine mz_WP.getf rfl (ho) rfl (Nat.le_of_ble_eq_true rfl) ?_
    refine mz_WP.run 80 rfl ?_
    refine mz_WP.alN (k := 413) rfl hg rfl (by omega) (by decide) ?_
    exact mz_WP.ret rfl rfl H0
  rw [if_neg w5] at H H0
  by_cases w6 : what = nI 6
  · rw [if_pos w6] at H0
    subst w6
    refine mz_WP.tin (off := 53) rfl (by decide) (by decide) ?_
    refine mz_WP.run 80 rfl ?_
    refine mz_WP.cv rfl rfl (Nat.le_of_ble_eq_true rfl) rfl (ho) rfl (m_lagging M ?_)
    exact mz_WP.ret rfl rfl H0
  rw [if_neg w6] at H H0
  by_cases w7 : what = nI 7
  · rw [if_pos w7] at H
    subst w7
    refine mz_WP.tin (off := 58) rfl (by decide) (by decide) ?_
    refine mz_WP.run 80 rfl ?_
    refine mz_WP.cv rfl rfl (Nat.le_of_ble_eq_true rfl) rfl (ho) rfl (m_allBest M W (fun h1 M1 o1 => ?_))
    exact mz_WP.ret rfl rfl (H h1 M1 o1)
  rw [if_neg w7] at H H0
  by_cases w8 : what = nI 8
  · rw [if_pos w8, ← kp_sum kp hkp] at H0
    subst w8
    refine mz_WP.tin (off := 63) rfl (by decide) (by decide) ?_
    refine mz_WP.run 80 rfl ?_
    refine mz_WP.getf rfl (ho) rfl (Nat.le_of_ble_eq_true rfl) ?_
    refine mz_WP.run 80 rfl ?_
    refine mz_WP.blN (k := 0) rfl hkk rfl (by omega) (by decide) ?_
    rw [xkk 0 (by omega)]
    have two : ∀ x : Int32, (if nI (kp / 2 ^ 0 % 2) = 0 then nI 0 else nI 1) = x → mz_WP (mz_wc (e + 6)) (e + 6) 1 co_X11_count Q 146 [some (.ref 186), some (.int (nI 8))] [.int x] n h 0 0 := by
      intro x hx
      rw [hx] at H0
      refine mz_WP.run 80 rfl ?_
      refine mz_WP.getf rfl (ho) rfl (Nat.le_of_ble_eq_true rfl) ?_
      refine mz_WP.run 80 rfl ?_
      refine mz_WP.blN (k := 1) rfl hkk rfl (by omega) (by decide) ?_
      rw [xkk 1 (by omega)]
      refine mz_WP.ifc rfl (fun y1 => ?_) (fun y1 => ?_)
      · have y1 : nI (kp / 2 ^ 1 % 2) = 0 := y1
        rw [if_pos y1] at H0
        refine mz_WP.run 80 rfl ?_
        exact mz_WP.ret rfl rfl H0
      · have y1 : ¬ nI (kp / 2 ^ 1 % 2) = 0 := y1
        rw [if_neg y1] at H0
        refine mz_WP.run 80 rfl ?_
        refine mz_WP.run 80 rfl ?_
        exact mz_WP.ret rfl rfl H0
    refine mz_WP.ifc rfl (fun y0 => ?_) (fun y0 => ?_)
    · refine mz_WP.run 1 rfl ?_
      exact two _ (if_pos y0)
    · refine mz_WP.run 2 rfl ?_
      exact two _ (if_neg y0)
  rw [if_neg w8] at H H0
  have hno : what.toInt < 4 ∨ 8 < what.toInt := by
    rcases Int.lt_or_le what.toInt 4 with z | z
    · exact Or.inl z
    · rcases Int.lt_or_le 8 what.toInt with y | y
      · exact Or.inr y
      · have e4 : (nI 4).toInt = 4 := by decide
        have e5 : (nI 5).toInt = 5 := by decide
        have e6 : (nI 6).toInt = 6 := by decide
        have e7 : (nI 7).toInt = 7 := by decide
        have e8 : (nI 8).toInt = 8 := by decide
        have f4 : ¬ what.toInt = 4 := fun q => w4 (Int32.toInt_inj.mp (q.trans e4.symm))
        have f5 : ¬ what.toInt = 5 := fun q => w5 (Int32.toInt_inj.mp (q.trans e5.symm))
        have f6 : ¬ what.toInt = 6 := fun q => w6 (Int32.toInt_inj.mp (q.trans e6.symm))
        have f7 : ¬ what.toInt = 7 := fun q => w7 (Int32.toInt_inj.mp (q.trans e7.symm))
        have f8 : ¬ what.toInt = 8 := fun q => w8 (Int32.toInt_inj.mp (q.trans e8.symm))
        omega
  refine mz_WP.tout rfl hno ?_
  refine mz_WP.run 80 rfl ?_
  exact mz_WP.ret rfl rfl H0
end MP4
