/-! Taps: insert, remove, isWholeFrom, copyFrom; dayOf -/
section TP2
variable {e n : Nat} {h : mz_H} {Q : mz_Q} {t : Nat} {z : Int32} {m s w : Nat → Int32}
theorem s_dayOf {x : Int32} (H : Q (some (.int (x / nI 1440))) n h) : mz_wc (e + 1) 114 [.int x] n h Q := by
  refine mz_wc.enter (code := co_X10_dayOf) (idx := 114) rfl rfl (Nat.le_of_ble_eq_true rfl) rfl rfl ?_
  refine mz_WP.run 80 rfl ?_
  refine mz_WP.div rfl (by decide) ?_
  exact mz_WP.ret rfl rfl H
theorem s_minuteOf {x : Int32} (H : Q (some (.int (x - x / nI 1440 * nI 1440))) n h) : mz_wc (e + 1) 115 [.int x] n h Q := by
  refine mz_wc.enter (code := co_X10_minuteOf) (idx := 115) rfl rfl (Nat.le_of_ble_eq_true rfl) rfl rfl ?_
  refine mz_WP.run 80 rfl ?_
  refine mz_WP.rem rfl (by decide) ?_
  exact mz_WP.ret rfl rfl H
theorem s_momentOf {x y : Int32} (H : Q (some (.int (x * nI 1440 + y))) n h) : mz_wc (e + 1) 113 [.int x, .int y] n h Q := by
  refine mz_wc.enter (code := co_X10_momentOf) (idx := 113) rfl rfl (Nat.le_of_ble_eq_true rfl) rfl rfl ?_
  refine mz_WP.run 80 rfl ?_
  exact mz_WP.ret rfl rfl H
theorem s_tins {k : Nat} {v x y : Int32} (F : tpF h t) (hk : k < 48) (H : ∀ p, p ≤ k → (∀ j, p ≤ j → j < k → v < m j) → (p = 0 ∨ m (p - 1) ≤ v) → Q none n (tpH h t (nI (k + 1)) (insf m k p v) (insf s k p x) (insf w k p y))) : mz_wc (e + 3) 66 [.ref t, .int v, .int x, .int y] n (tpH h t (nI k) m s w) Q := by
  have h2 := F.1
  refine mz_wc.enter (code := co_X8_insert) (idx := 66) rfl rfl (Nat.le_of_ble_eq_true rfl) rfl rfl ?_
  refine mz_WP.run 80 rfl ?_
  refine mz_WP.getf rfl (tp_o) rfl (Nat.le_of_ble_eq_true rfl) ?_
  refine mz_WP.run 80 rfl ?_
  refine mz_WP.icmp rfl (fun c => ?_) (fun c => ?_)
  · refine mz_WP.run 80 rfl ?_
    refine mz_WP.getf rfl (tp_o) rfl (Nat.le_of_ble_eq_true rfl) ?_
    refine mz_WP.run 1 rfl ?_
    have fin : ∀ p, p ≤ k → (∀ j, p ≤ j → j < k → v < m j) → (p = 0 ∨ m (p - 1) ≤ v) → mz_WP (mz_wc (e + 2)) (e + 2) 0 co_X8_insert Q 52 [some (.ref t), some (.int v), some (.int x), some (.int y), some (.int (nI p))] [] n (tpH h t (nI k) (shf m k p) (shf s k p) (shf w k p)) 0 0 := by
      intro p hp h1 h3
      refine mz_WP.run 80 rfl ?_
      refine mz_WP.getf rfl (tp_o) rfl (Nat.le_of_ble_eq_true rfl) ?_
      refine mz_WP.run 80 rfl ?_
      refine mz_WP.cv rfl rfl (Nat.le_of_ble_eq_true rfl) rfl (tp_1 F) rfl (s_put (tp_1 F) tp_2 (by omega) (by decide) ?_)
      rw [tp_u2, rput_in (by omega) (by decide), shf_e]
      refine mz_WP.run 80 rfl ?_
      refine mz_WP.getf rfl (tp_o) rfl (Nat.le_of_ble_eq_true rfl) ?_
      refine mz_WP.run 80 rfl ?_
      refine mz_WP.cv rfl rfl (Nat.le_of_ble_eq_true rfl) rfl (tp_3 F) rfl (s_put (tp_3 F) tp_4 (by omega) (by decide) ?_)
      rw [tp_u4, rput_in (by omega) (by decide), shf_e]
      refine mz_WP.run 80 rfl ?_
      refine mz_WP.getf rfl (tp_o) rfl (Nat.le_of_ble_eq_true rfl) ?_
      refine mz_WP.run 80 rfl ?_
      refine mz_WP.cv rfl rfl (Nat.le_of_ble_eq_true rfl) rfl (tp_5 F) rfl (s_put (tp_5 F) tp_6 (by omega) (by decide) ?_)
      rw [tp_u6, rput_in (by omega) (by decide), shf_e]
      refine mz_WP.run 80 rfl ?_
      refine mz_WP.getf rfl (tp_o) rfl (Nat.le_of_ble_eq_true rfl) ?_
      refine mz_WP.run 80 rfl ?_
      refine mz_WP.putf rfl (tp_o) (Nat.le_of_ble_eq_true rfl) (Nat.le_of_ble_eq_true rfl) rfl ?_
      refine mz_WP.vret rfl rfl ?_
      have := H p hp h1 h3
      rw [nI_succ] at this
      show Q none n (mz_up _ t (.inr (8, [.ref (t + 1), .ref (t + 3), .ref (t + 5), .int (nI k + 1)])))
      rw [tp_u0]
      exact this
    have loop : ∀ p, p ≤ k → (∀ j, p ≤ j → j < k → v < m j) → mz_WP (mz_wc (e + 2)) (e + 2) 0 co_X8_insert Q 16 [some (.ref t), some (.int v), some (.int x), some (.int y), some (.int (nI p))] [] n (tpH h t (nI k) (shf m k p) (shf s k p) (shf w k p)) 0 0 := by
      intro p
      induction p with
      | zero =>
        intro hp h1
        refine mz_WP.run 80 rfl ?_
        refine mz_WP.ifc rfl (fun c => ?_) (fun c => ?_)
        · exact fin 0 hp h1 (Or.inl rfl)
        · exact absurd (show nI 0 ≤ 0 from Int32.le_refl _) c
      | succ p ih =>
        intro hp h1
        refine mz_WP.run 80 rfl ?_
        refine mz_WP.ifc rfl (fun c => ?_) (fun c => ?_)
        · exact absurd c (nI_nle (by omega) (by omega))
        · refine mz_WP.run 80 rfl ?_
          refine mz_WP.getf rfl (tp_o) rfl (Nat.le_of_ble_eq_true rfl) ?_
          refine mz_WP.run 80 rfl ?_
          refine mz_WP.cv rfl rfl (Nat.le_of_ble_eq_true rfl) rfl (tp_1 F) rfl (s_at (tp_1 F) tp_2 (by decide) ?_)
          rw [show nI (p + 1) - nI 1 = nI p from nI_pred p, rat_in (by omega) (by decide)]
          refine mz_WP.run 80 rfl ?_
          have hs : shf m k (p + 1) p = m p := if_neg (by omega)
          refine mz_WP.icmp rfl (fun c2 => ?_) (fun c2 => ?_)
          · have c2 : shf m k (p + 1) p ≤ v := c2
            exact fin (p + 1) hp h1 (Or.inr (by rw [hs] at c2; exact c2))
          · have c2 : ¬ shf m k (p + 1) p ≤ v := c2
            refine mz_WP.run 80 rfl ?_
            refine mz_WP.cv rfl rfl (Nat.le_of_ble_eq_true rfl) rfl (tp_o) rfl (s_tmove F ?_)
            rw [show nI (p + 1) - nI 1 = nI p from nI_pred p, rat_in (by omega) (by decide), rat_in (by omega) (by decide), rat_in (by omega) (by decide), rput_in (by omega) (by decide), rput_in (by omega) (by decide), rput_in (by omega) (by decide), shf_s hp, shf_s hp, shf_s hp]
            refine mz_WP.run 80 rfl ?_
            have := ih (by omega) (fun j h3 h4 => by
              by_cases hj : j = p
              · subst hj
                rw [hs] at c2
                exact Int32.not_le.mp c2
              · exact h1 j (by omega) h4)
            rw [show nI (p + 1) + nI 4294967295 = nI p from pk_m1 p]
            exact this
    have := loop k (Nat.le_refl k) (fun j h1 h2 => by omega)
    rw [shf_0, shf_0, shf_0] at this
    exact this
  · exact absurd (nI_lt hk (by decide)) c
theorem s_trem {k p : Nat} (F : tpF h t) (hk : k ≤ 48) (hp : p < k) (H : Q none n (tpH h t (nI (k - 1)) (rmf m k p) (rmf s k p) (rmf w k p))) : mz_wc (e + 3) 67 [.ref t, .int (nI p)] n (tpH h t (nI k) m s w) Q := by
  have h2 := F.1
  refine mz_wc.enter (code := co_X8_remove) (idx := 67) rfl rfl (Nat.le_of_ble_eq_true rfl) rfl rfl ?_
  refine mz_WP.run 80 rfl ?_
  refine mz_WP.ifc rfl (fun c => ?_) (fun c => ?_)
  · exact absurd c (nI_pos (by omega))
  · refine mz_WP.run 80 rfl ?_
    refine mz_WP.getf rfl (tp_o) rfl (Nat.le_of_ble_eq_true rfl) ?_
    refine mz_WP.icmp rfl (fun c => ?_) (fun c => ?_)
    · refine mz_WP.run 4 rfl ?_
      have loop : ∀ q i, i + q = k → p < i → mz_WP (mz_wc (e + 2)) (e + 2) 0 co_X8_remove Q 17 [some (.ref t), some (.int (nI p)), some (.int (nI i))] [] n (tpH h t (nI k) (rmf m i p) (rmf s i p) (rmf w i p)) 0 0 := by
        intro q
        induction q with
        | zero =>
          intro i hi hpi
          have hi : i = k := by omega
          subst hi
          refine mz_WP.run 80 rfl ?_
          refine mz_WP.getf rfl (tp_o) rfl (Nat.le_of_ble_eq_true rfl) ?_
          refine mz_WP.icmp rfl (fun c => ?_) (fun c => ?_)
          · refine mz_WP.run 80 rfl ?_
            refine mz_WP.getf rfl (tp_o) rfl (Nat.le_of_ble_eq_true rfl) ?_
            refine mz_WP.run 80 rfl ?_
            refine mz_WP.putf rfl (tp_o) (Nat.le_of_ble_eq_true rfl) (Nat.le_of_ble_eq_true rfl) rfl ?_
            refine mz_WP.vret rfl rfl ?_
            show Q none n (mz_up _ t (.inr (8, [.ref (t + 1), .ref (t + 3), .ref (t + 5), .int (nI i - nI 1)])))
            rw [tp_u0, pk_sub (by omega)]
            exact H
          · exact absurd (nI_le (Nat.le_refl _) (by omega)) c
        | succ q ih =>
          intro i hi hpi
          refine mz_WP.run 80 rfl ?_
          refine mz_WP.getf rfl (tp_o) rfl (Nat.le_of_ble_eq_true rfl) ?_
          refine mz_WP.icmp rfl (fun c => ?_) (fun c => ?_)
          · exact absurd c (nI_ge (by omega) (by omega))
          · refine mz_WP.run 80 rfl ?_
            refine mz_WP.cv rfl rfl (Nat.le_of_ble_eq_true rfl) rfl (tp_o) rfl (s_tmove F ?_)
            rw [show nI i - nI 1 = nI (i - 1) from pk_sub (by omega), rat_in (by omega) (by decide), rat_in (by omega) (by decide), rat_in (by omega) (by decide), rput_in (by omega) (by decide), rput_in (by omega) (by decide), rput_in (by omega) (by decide), rmf_s hpi, rmf_s hpi, rmf_s hpi]
            refine mz_WP.run 80 rfl ?_
            have := ih (i + 1) (by omega) (by omega)
            rw [nI_succ] at this
            exact this
      have := loop (k - (p + 1)) (p + 1) (by omega) (by omega)
      rw [rmf_0, rmf_0, rmf_0, nI_succ] at this
      exact this
    · exact absurd (nI_lt hp (by omega)) c
def wholeP (k : Nat) (m w : Nat → Int32) (j : Nat) : Prop := j + 1 < k ∧ w j = 0 ∧ w (j + 1) = 1 ∧ m j / nI 1440 = m (j + 1) / nI 1440
theorem s_twhole {k j : Nat} (F : tpF h t) (hk : k ≤ 48) (hj : j < k) (H1 : wholeP k m w j → Q (some (.int 1)) n (tpH h t (nI k) m s w)) (H0 : ¬ wholeP k m w j → Q (some (.int 0)) n (tpH h t (nI k) m s w)) : mz_wc (e + 2) 69 [.ref t, .int (nI j)] n (tpH h t (nI k) m s w) Q := by
  refine mz_wc.enter (code := co_X8_isWholeFrom) (idx := 69) rfl rfl (Nat.le_of_ble_eq_true rfl) rfl rfl ?_
  have out : ¬ wholeP k m w j → mz_WP (mz_wc (e + 1)) (e + 1) 2 co_X8_isWholeFrom Q 70 [some (.ref t), some (.int (nI j))] [] n (tpH h t (nI k) m s w) 0 0 := by
    intro hn
    refine mz_WP.run 80 rfl ?_
    exact mz_WP.zret rfl rfl (Or.inl rfl) (H0 hn)
  refine mz_WP.run 80 rfl ?_
  refine mz_WP.ifc rfl (fun c => ?_) (fun c => ?_)
  · exact absurd c (nI_pos (by omega))
  · refine mz_WP.run 80 rfl ?_
    refine mz_WP.getf rfl (tp_o) rfl (Nat.le_of_ble_eq_true rfl) ?_
    refine mz_WP.icmp rfl (fun c => ?_) (fun c => ?_)
    · refine out (fun q => ?_)
      rw [nI_add] at c
      exact absurd c (nI_ge q.1 (by omega))
    · have hlt : j + 1 < k := by
        rw [nI_add] at c
        rcases Nat.lt_or_ge (j + 1) k with q | q
        · exact q
        · exact absurd (nI_le q (by omega)) c
      refine mz_WP.run 80 rfl ?_
      refine mz_WP.getf rfl (tp_o) rfl (Nat.le_of_ble_eq_true rfl) ?_
      refine mz_WP.run 80 rfl ?_
      refine mz_WP.cv rfl rfl (Nat.le_of_ble_eq_true rfl) rfl (tp_5 F) rfl (s_at (tp_5 F) tp_6 (by decide) ?_)
      rw [rat_in (by omega) (by decide)]
      refine mz_WP.ifc rfl (fun c1 => ?_) (fun c1 => ?_)
      · exact out (fun q => c1 q.2.1)
      · have c1 : w j = 0 := Classical.byContradiction c1
        refine mz_WP.run 80 rfl ?_
        refine mz_WP.getf rfl (tp_o) rfl (Nat.le_of_ble_eq_true rfl) ?_
        refine mz_WP.run 80 rfl ?_
        refine mz_WP.cv rfl rfl (Nat.le_of_ble_eq_true rfl) rfl (tp_5 F) rfl (s_at (tp_5 F) tp_6 (by decide) ?_)
        rw [nI_add, rat_in (by omega) (by decide)]
        refine mz_WP.run 80 rfl ?_
        refine mz_WP.icmp rfl (fun c2 => ?_) (fun c2 => ?_)
        · exact out (fun q => c2 q.2.2.1)
        · have c2 : w (j + 1) = 1 := Classical.byContradiction c2
          refine mz_WP.run 80 rfl ?_
          refine mz_WP.getf rfl (tp_o) rfl (Nat.le_of_ble_eq_true rfl) ?_
          refine mz_WP.run 80 rfl ?_
          refine mz_WP.cv rfl rfl (Nat.le_of_ble_eq_true rfl) rfl (tp_1 F) rfl (s_at (tp_1 F) tp_2 (by decide) ?_)
          rw [rat_in (by omega) (by decide)]
          refine mz_WP.cs rfl (by decide) rfl (Nat.le_of_ble_eq_true rfl) rfl (s_dayOf ?_)
          refine mz_WP.run 80 rfl ?_
          refine mz_WP.getf rfl (tp_o) rfl (Nat.le_of_ble_eq_true rfl) ?_
          refine mz_WP.run 80 rfl ?_
          refine mz_WP.cv rfl rfl (Nat.le_of_ble_eq_true rfl) rfl (tp_1 F) rfl (s_at (tp_1 F) tp_2 (by decide) ?_)
          rw [nI_add, rat_in (by omega) (by decide)]
          refine mz_WP.cs rfl (by decide) rfl (Nat.le_of_ble_eq_true rfl) rfl (s_dayOf ?_)
          refine mz_WP.icmp rfl (fun c3 => ?_) (fun c3 => ?_)
          · exact out (fun q => c3 q.2.2.2)
          · have c3 : m j / nI 1440 = m (j + 1) / nI 1440 := Classical.byContradiction c3
            refine mz_WP.run 80 rfl ?_
            refine mz_WP.run 80 rfl ?_
            exact mz_WP.zret rfl rfl (Or.inr rfl) (H1 ⟨hlt, c1, c2, c3⟩)
theorem s_twholeN {k : Nat} (H0 : Q (some (.int 0)) n (tpH h t (nI k) m s w)) : mz_wc (e + 2) 69 [.ref t, .int (nI 0 - nI 1)] n (tpH h t (nI k) m s w) Q := by
  refine mz_wc.enter (code := co_X8_isWholeFrom) (idx := 69) rfl rfl (Nat.le_of_ble_eq_true rfl) rfl rfl ?_
  refine mz_WP.run 80 rfl ?_
  refine mz_WP.ifc rfl (fun c => ?_) (fun c => ?_)
  · refine mz_WP.run 80 rfl ?_
    exact mz_WP.zret rfl rfl (Or.inl rfl) H0
  · exact absurd (show nI 0 - nI 1 < 0 by decide) c
end TP2
