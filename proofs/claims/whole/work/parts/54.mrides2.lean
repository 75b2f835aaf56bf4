/-! the reference: rides laid -/
theorem nI1 : nI 1 = 1 := by decide
theorem nI2 : nI 2 = 2 := by decide
section PR
variable {k i : Nat} {m s w : Nat → Int32}
theorem rl_s (hb : behind k m w i = false) : rl k m s w (i + 1) = rl k m s w i ++ [rideOf k m s w (rl k m s w i) i] := if_neg (fun z => by rw [hb] at z; cases z.2)
theorem wholeB_n (hw : ¬ w i = 0) : wholeB k m w i = false := by
  cases hb : wholeB k m w i with
  | false => rfl
  | true => exact absurd (wholeB_iff.mp hb).2.1 hw
theorem rl_out (hb : behind k m w i = false) (hw : ¬ w i = 0) : rl k m s w (i + 1) = rl k m s w i ++ [(nI 2, lastB (rl k m s w i) (s i), s i, m i, m i)] := by
  rw [rl_s hb, nI2]
  unfold rideOf
  rw [wholeB_n hw, if_neg (by decide), if_neg hw]
theorem rl_in (hb : behind k m w i = false) (hn : wholeB k m w i = false) (hw : w i = 0) : rl k m s w (i + 1) = rl k m s w i ++ [(nI 1, s i, lastE (rl k m s w i) (s i), m i, m i)] := by
  rw [rl_s hb, nI1]
  unfold rideOf
  rw [hn, if_neg (by decide), if_pos hw]
theorem rl_wh (hb : behind k m w i = false) (hn : wholeB k m w i = true) : rl k m s w (i + 1 + 1) = rl k m s w i ++ [(nI 0, s i, s (i + 1), m i, m (i + 1))] ∧ behind k m w (i + 1 + 1) = false := by
  have hw : ¬ w (i + 1) = 0 := by
    rw [(wholeB_iff.mp hn).2.2.1]
    decide
  refine ⟨?_, wholeB_n hw⟩
  have e1 : rl k m s w (i + 1 + 1) = rl k m s w (i + 1) := if_pos ⟨wholeB_n hw, hn⟩
  rw [e1, rl_s hb, nI_0]
  unfold rideOf
  rw [if_pos hn]
end PR
section MR2
variable {e n : Nat} {h : mz_H} {Q : mz_Q} {g : Nat → Int32} {r j : Int32} {kd st sp bg en lm : Nat → Int32}
theorem m_layRides {c k : Nat} (Wc : WFc g c k) (hc : c < 4) (hg : h 187 = .inl (0, 423, g)) (H : ∀ kd st sp bg en lm, RepA (gL g c k) st sp bg en kd → LmP (gL g c k) lm → Q none n (mrH h (nI (gL g c k).length) j kd st sp bg en lm)) : mz_wc (e + 2) 136 [.ref 186, .int (nI c)] n (mrH h r j kd st sp bg en lm) Q := by
  have hk := Wc.1
  have hs : ∀ q, q < k → ∃ a, a < 8 ∧ gS g c q = nI a := fun q hq => by
    obtain ⟨a, b, ha, hb, hw⟩ := Wc.2.2.2.1 q hq
    refine ⟨a, ha, ?_⟩
    unfold gS
    rw [hw, (gsy ha hb).1]
  have hy : ∀ q, q < k → ¬ gY g c q = 0 → gY g c q = 1 := fun q hq hz => by
    obtain ⟨a, b, ha, hb, hw⟩ := Wc.2.2.2.1 q hq
    have hy : gY g c q = nI b := by
      unfold gY
      rw [hw, (gsy ha hb).2]
    rw [hy] at hz ⊢
    match b, hb with
    | 0, _ => exact absurd nI_0 hz
    | 1, _ => exact nI1
  have hg' : ∀ {r j kd st sp bg en lm}, mrH h r j kd st sp bg en lm 187 = .inl (0, 423, g) := fun {r j kd st sp bg en lm} => (mr_lt (by omega)).trans hg
  refine mz_wc.enter (code := co_X11_layRides) (idx := 136) rfl rfl (Nat.le_of_ble_eq_true rfl) rfl rfl ?_
  refine mz_WP.run 80 rfl ?_
  refine mz_WP.putf rfl (rfl) (Nat.le_of_ble_eq_true rfl) (Nat.le_of_ble_eq_true rfl) rfl ?_
  show mz_WP _ _ _ _ _ _ _ _ _ (mz_up (mrH h r j kd st sp bg en lm) 186 (mo (nI 0) j)) _ _
  rw [mr_u0]
  refine mz_WP.run 2 rfl ?_
  have loop : ∀ q i x3 x4 kd st sp bg en lm, k - i ≤ q → i ≤ k → behind k (gm g c) (gY g c) i = false → RepA (rl k (gm g c) (gS g c) (gY g c) i) st sp bg en kd → LmP (rl k (gm g c) (gS g c) (gY g c) i) lm → mz_WP (mz_wc (e + 1)) (e + 1) 0 co_X11_layRides Q 7 [some (.ref 186), some (.int (nI c)), some (.int (nI i)), x3, x4] [] n (mrH h (nI (rl k (gm g c) (gS g c) (gY g c) i).length) j kd st sp bg en lm) 0 0 := by
    intro q
    induction q with
    | zero =>
      intro i x3 x4 kd st sp bg en lm hq hi hb R M
      have hi : i = k := by omega
      subst hi
      refine mz_WP.run 80 rfl ?_
      refine mz_WP.getf rfl (rfl) rfl (Nat.le_of_ble_eq_true rfl) ?_
      refine mz_WP.run 80 rfl ?_
      refine mz_WP.alN rfl hg' (nI_add _ _) (by omega) (by decide) ?_
      rw [Wc.2.1]
      refine mz_WP.icmp rfl (fun cc => ?_) (fun cc => ?_)
      · exact mz_WP.vret rfl rfl (H _ _ _ _ _ _ R M)
      · exact absurd (nI_le (Nat.le_refl _) (by omega)) cc
    | succ q ih =>
      intro i x3 x4 kd st sp bg en lm hq hi hb R M
      have hlen := rl_len k (gm g c) (gS g c) (gY g c) i
      refine mz_WP.run 80 rfl ?_
      refine mz_WP.getf rfl (rfl) rfl (Nat.le_of_ble_eq_true rfl) ?_
      refine mz_WP.run 80 rfl ?_
      refine mz_WP.alN rfl hg' (nI_add _ _) (by omega) (by decide) ?_
      rw [Wc.2.1]
      refine mz_WP.icmp rfl (fun cc => ?_) (fun cc => ?_)
      · have cc : nI k ≤ nI i := cc
        rw [nI_leI (by omega) (by omega)] at cc
        have hi : i = k := by omega
        subst hi
        exact mz_WP.vret rfl rfl (H _ _ _ _ _ _ R M)
      have cc : ¬ nI k ≤ nI i := cc
      rw [nI_leI (by omega) (by omega)] at cc
      have hik : i < k := by omega
      have RPs := rl_RP (m := gm g c) (w := gY g c) hs i hi
      refine mz_WP.run 80 rfl ?_
      refine mz_WP.cv rfl rfl (Nat.le_of_ble_eq_true rfl) rfl (rfl) rfl (m_when rfl hg' hc (by omega) ?_)
      refine mz_WP.run 80 rfl ?_
      refine mz_WP.cv rfl rfl (Nat.le_of_ble_eq_true rfl) rfl (rfl) rfl (m_sta rfl hg' hc (by omega) ?_)
      refine mz_WP.run 80 rfl ?_
      refine mz_WP.cv rfl rfl (Nat.le_of_ble_eq_true rfl) rfl (rfl) rfl (m_isIn rfl hg' hc (by omega) ?_)
      refine mz_WP.ifc rfl (fun c1 => ?_) (fun c1 => ?_)
      rotate_left
      · have c1 := of_decide_eq_false (bI_f (Classical.byContradiction c1))
        have e1 := rl_out (s := gS g c) hb c1
        refine mz_WP.run 80 rfl ?_
        refine mz_WP.cv rfl rfl (Nat.le_of_ble_eq_true rfl) rfl (rfl) rfl (m_mendB rfl rfl rfl rfl (by omega) R ?_)
        refine mz_WP.run 80 rfl ?_
        refine mz_WP.cv rfl rfl (Nat.le_of_ble_eq_true rfl) rfl (rfl) rfl (m_addRide (by omega) (lastB_P RPs _) (Or.inr (hs i hik)) ?_)
        refine mz_WP.run 80 rfl ?_
        refine mz_WP.run 80 rfl ?_
        have nx := ih (i + 1) (some (.int (gm g c i))) (some (.int (gS g c i))) _ _ _ _ _ _ (by omega) (by omega) (wholeB_n c1) (by rw [e1]; exact R.app rfl (nI 2, lastB (rl k (gm g c) (gS g c) (gY g c) i) (gS g c i), gS g c i, gm g c i, gm g c i)) (by rw [e1]; exact M.app rfl _)
        rw [e1, List.length_append, List.length_singleton, nI_succ i] at nx
        exact nx
      have c1 := of_decide_eq_true (bI_t c1)
      have lack : wholeB k (gm g c) (gY g c) i = false → mz_WP (mz_wc (e + 1)) (e + 1) 0 co_X11_layRides Q 137 [some (.ref 186), some (.int (nI c)), some (.int (nI i)), some (.int (gm g c i)), some (.int (gS g c i))] [] n (mrH h (nI (rl k (gm g c) (gS g c) (gY g c) i).length) j kd st sp bg en lm) 0 0 := by
        intro hw
        have e1 := rl_in (s := gS g c) hb hw c1
        refine mz_WP.run 80 rfl ?_
        refine mz_WP.cv rfl rfl (Nat.le_of_ble_eq_true rfl) rfl (rfl) rfl (m_mendE rfl rfl rfl rfl (by omega) R ?_)
        refine mz_WP.run 80 rfl ?_
        refine mz_WP.cv rfl rfl (Nat.le_of_ble_eq_true rfl) rfl (rfl) rfl (m_addRide (by omega) (Or.inr (hs i hik)) (lastE_P RPs _) ?_)
        refine mz_WP.run 80 rfl ?_
        have nx := ih (i + 1) (some (.int (gm g c i))) (some (.int (gS g c i))) _ _ _ _ _ _ (by omega) (by omega) hw (by rw [e1]; exact R.app rfl (nI 1, gS g c i, lastE (rl k (gm g c) (gS g c) (gY g c) i) (gS g c i), gm g c i, gm g c i)) (by rw [e1]; exact M.app rfl _)
        rw [e1, List.length_append, List.length_singleton, nI_succ i] at nx
        exact nx
      refine mz_WP.run 80 rfl ?_
      refine mz_WP.getf rfl (rfl) rfl (Nat.le_of_ble_eq_true rfl) ?_
      refine mz_WP.run 80 rfl ?_
      refine mz_WP.alN rfl hg' (nI_add _ _) (by omega) (by decide) ?_
      rw [Wc.2.1, nI_add]
      refine mz_WP.icmp rfl (fun c2 => ?_) (fun c2 => ?_)
      · have c2 : nI k ≤ nI (i + 1) := c2
        rw [nI_leI (by omega) (by omega)] at c2
        refine lack ?_
        cases hb : wholeB k (gm g c) (gY g c) i with
        | false => rfl
        | true =>
          have := (wholeB_iff.mp hb).1
          omega
      have c2 : ¬ nI k ≤ nI (i + 1) := c2
      rw [nI_leI (by omega) (by omega)] at c2
      have hik1 : i + 1 < k := by omega
      refine mz_WP.run 80 rfl ?_
      rw [nI_add]
      refine mz_WP.cv rfl rfl (Nat.le_of_ble_eq_true rfl) rfl (rfl) rfl (m_isIn rfl hg' hc (by omega) ?_)
      refine mz_WP.ifc rfl (fun c3 => ?_) (fun c3 => ?_)
      · have c3 := of_decide_eq_true (bI_t c3)
        refine lack ?_
        cases hb : wholeB k (gm g c) (gY g c) i with
        | false => rfl
        | true =>
          have := (wholeB_iff.mp hb).2.2.1
          rw [c3] at this
          exact absurd this (by decide)
      have c3 := hy (i + 1) hik1 (of_decide_eq_false (bI_f (Classical.byContradiction c3)))
      refine mz_WP.run 80 rfl ?_
      rw [nI_add]
      refine mz_WP.cv rfl rfl (Nat.le_of_ble_eq_true rfl) rfl (rfl) rfl (m_when rfl hg' hc (by omega) ?_)
      refine mz_WP.run 80 rfl ?_
      refine mz_WP.div rfl (by decide) ?_
      refine mz_WP.run 80 rfl ?_
      refine mz_WP.div rfl (by decide) ?_
      refine mz_WP.icmp rfl (fun c4 => ?_) (fun c4 => ?_)
      · have c4 : ¬ gm g c (i + 1) / nI 1440 = gm g c i / nI 1440 := c4
        refine lack ?_
        cases hb : wholeB k (gm g c) (gY g c) i with
        | false => rfl
        | true => exact absurd (wholeB_iff.mp hb).2.2.2.symm c4
      have c4 : gm g c (i + 1) / nI 1440 = gm g c i / nI 1440 := Classical.byContradiction c4
      have hw : wholeB k (gm g c) (gY g c) i = true := wholeB_iff.mpr ⟨hik1, c1, c3, c4.symm⟩
      obtain ⟨e1, e2⟩ := rl_wh (s := gS g c) hb hw
      refine mz_WP.run 80 rfl ?_
      rw [nI_add]
      refine mz_WP.cv rfl rfl (Nat.le_of_ble_eq_true rfl) rfl (rfl) rfl (m_sta rfl hg' hc (by omega) ?_)
      refine mz_WP.run 80 rfl ?_
      refine mz_WP.cv rfl rfl (Nat.le_of_ble_eq_true rfl) rfl (rfl) rfl (m_when rfl hg' hc (by omega) ?_)
      refine mz_WP.cv rfl rfl (Nat.le_of_ble_eq_true rfl) rfl (rfl) rfl (m_addRide (by omega) (Or.inr (hs i hik)) (Or.inr (hs (i + 1) hik1)) ?_)
      refine mz_WP.run 80 rfl ?_
      refine mz_WP.run 80 rfl ?_
      have nx := ih (i + 1 + 1) (some (.int (gm g c i))) (some (.int (gS g c i))) _ _ _ _ _ _ (by omega) (by omega) e2 (by rw [e1]; exact R.app rfl (nI 0, gS g c i, gS g c (i + 1), gm g c i, gm g c (i + 1))) (by rw [e1]; exact M.app rfl _)
      rw [e1, List.length_append, List.length_singleton, nI_succ (i + 1)] at nx
      exact nx
  refine loop k 0 _ _ _ _ _ _ _ _ (by omega) (by omega) rfl (fun i p hp => ?_) (fun i p hp => ?_)
  · cases hp
  · cases hp
end MR2
