/-! the makers of the class: Tariff, State, Bill, the whole -/
section MK5
variable {e n : Nat} {h : mz_H} {Q : mz_Q}
theorem s_trinit (hn : 1 ≤ n) (hz : h 0 = .inl (0, 8, mz_zn)) (ht : h (n + 1) = .inr (9, mz_df 9)) (H : ∀ h', TrA h' (n + 1) (rcpy 8 zf mz_zn) (tfz 150 50 6) (tfz 400 100 6) (tfz 1500 400 6) (nI 50) (nI 30) → (∀ b, b < n + 1 ∨ n + 1 + 8 < b → h' b = h b) → Q none (n + 8) h') : mz_wc (e + 3) 71 [.ref (n + 1)] n h Q := by
  refine mz_wc.enter (code := co_X9_init) (idx := 71) rfl rfl (Nat.le_of_ble_eq_true rfl) rfl rfl ?_
  refine mz_WP.run 80 rfl ?_
  refine mz_WP.oi rfl rfl (by omega) (Nat.le_of_ble_eq_true rfl) ?_
  refine mk_row (t := n + 1) (i := 0) (ln := fun j => ([8, 6, 6, 6] : List Nat).getD j 0) (h0 := h) (by omega) ht RI.z (fun _ _ => rfl) rfl rfl rfl rfl (by decide) rfl rfl (by decide) (by decide) (by decide) (Nat.le_of_ble_eq_true rfl) (Nat.le_of_ble_eq_true rfl) rfl (fun h1 a1 R1 o1 => ?_)
  refine mk_row (t := n + 1) (i := 1) (by omega) a1 R1 o1 rfl rfl rfl rfl (by decide) rfl rfl (by decide) (by decide) (by decide) (Nat.le_of_ble_eq_true rfl) (Nat.le_of_ble_eq_true rfl) rfl (fun h2 a2 R2 o2 => ?_)
  refine mk_row (t := n + 1) (i := 2) (by omega) a2 R2 o2 rfl rfl rfl rfl (by decide) rfl rfl (by decide) (by decide) (by decide) (Nat.le_of_ble_eq_true rfl) (Nat.le_of_ble_eq_true rfl) rfl (fun h3 a3 R3 o3 => ?_)
  refine mk_row (t := n + 1) (i := 3) (by omega) a3 R3 o3 rfl rfl rfl rfl (by decide) rfl rfl (by decide) (by decide) (by decide) (Nat.le_of_ble_eq_true rfl) (Nat.le_of_ble_eq_true rfl) rfl (fun h4 a4 R4 o4 => ?_)
  refine mz_WP.run 80 rfl ?_
  refine mz_WP.putf rfl (a4) (Nat.le_of_ble_eq_true rfl) (Nat.le_of_ble_eq_true rfl) rfl ?_
  refine mz_WP.run 80 rfl ?_
  refine mz_WP.putf rfl (mz_up_s) (Nat.le_of_ble_eq_true rfl) (Nat.le_of_ble_eq_true rfl) rfl ?_
  have loop2 : ∀ k w h', w + k = 6 → 1 ≤ w → TrA h' (n + 1) (rcpy 8 zf mz_zn) (tfz 150 50 w) (tfz 400 100 w) (tfz 1500 400 w) (nI 50) (nI 30) → (∀ b, b < n + 1 ∨ n + 1 + 8 < b → h' b = h b) → mz_WP (mz_wc (e + 2)) (e + 2) 0 co_X9_init Q 99 [some (.ref (n + 1)), some (.int (nI w))] [] (n + 8) h' 0 0 := by
    intro k
    induction k with
    | zero =>
      intro w h' hw h1 T o
      have hw : w = 6 := by omega
      subst hw
      refine mz_WP.run 80 rfl ?_
      refine mz_WP.icmp rfl (fun c => ?_) (fun c => ?_)
      · exact mz_WP.vret rfl rfl (H h' T o)
      · exact absurd (by decide : nI 5 < nI 6) c
    | succ k ih =>
      intro w h' hw h1 T o
      refine mz_WP.run 80 rfl ?_
      refine mz_WP.icmp rfl (fun c => ?_) (fun c => ?_)
      · exact absurd c (nI_nlt (by omega) (by omega))
      · refine mz_WP.run 80 rfl ?_
        refine mz_WP.getf rfl (T.1) rfl (Nat.le_of_ble_eq_true rfl) ?_
        refine mz_WP.run 80 rfl ?_
        refine mz_WP.cv rfl rfl (Nat.le_of_ble_eq_true rfl) rfl (T.2.1.2.1) rfl (s_put T.2.1.2.1 T.2.2.2.1 (by omega) (by decide) ?_)
        rw [rput_in (by omega) (by decide), tfz_s h1]
        have T := T.u4 (f := tfz 150 50 (w + 1))
        refine mz_WP.run 80 rfl ?_
        refine mz_WP.getf rfl (T.1) rfl (Nat.le_of_ble_eq_true rfl) ?_
        refine mz_WP.run 80 rfl ?_
        refine mz_WP.cv rfl rfl (Nat.le_of_ble_eq_true rfl) rfl (T.2.1.2.2.1) rfl (s_put T.2.1.2.2.1 T.2.2.2.2.1 (by omega) (by decide) ?_)
        rw [rput_in (by omega) (by decide), tfz_s h1]
        have T := T.u6 (f := tfz 400 100 (w + 1))
        refine mz_WP.run 80 rfl ?_
        refine mz_WP.getf rfl (T.1) rfl (Nat.le_of_ble_eq_true rfl) ?_
        refine mz_WP.run 80 rfl ?_
        refine mz_WP.cv rfl rfl (Nat.le_of_ble_eq_true rfl) rfl (T.2.1.2.2.2) rfl (s_put T.2.1.2.2.2 T.2.2.2.2.2 (by omega) (by decide) ?_)
        rw [rput_in (by omega) (by decide), tfz_s h1]
        have T := T.u8 (f := tfz 1500 400 (w + 1))
        refine mz_WP.run 80 rfl ?_
        have := ih (w + 1) _ (by omega) (by omega) T (fun b hb => (mz_up_n (by omega)).trans ((mz_up_n (by omega)).trans ((mz_up_n (by omega)).trans (o b hb))))
        rw [nI_succ] at this
        exact this
  have loop1 : ∀ k w h', w + k = 8 → TrA h' (n + 1) (rcpy w zf mz_zn) zf zf zf (nI 50) (nI 30) → (∀ b, b < n + 1 ∨ n + 1 + 8 < b → h' b = h b) → mz_WP (mz_wc (e + 2)) (e + 2) 0 co_X9_init Q 70 [some (.ref (n + 1)), some (.int (nI w))] [] (n + 8) h' 0 0 := by
    intro k
    induction k with
    | zero =>
      intro w h' hw T o
      have hw : w = 8 := by omega
      subst hw
      refine mz_WP.run 80 rfl ?_
      refine mz_WP.alen rfl ((o 0 (by omega)).trans hz) ?_
      refine mz_WP.icmp rfl (fun c => ?_) (fun c => ?_)
      · refine mz_WP.run 2 rfl ?_
        have := loop2 5 1 h' (by omega) (by omega) (by rw [← tfz_1, ← tfz_1, ← tfz_1]; exact T) o
        exact this
      · exact absurd (by decide : nI 8 ≤ nI 8) c
    | succ k ih =>
      intro w h' hw T o
      refine mz_WP.run 80 rfl ?_
      refine mz_WP.alen rfl ((o 0 (by omega)).trans hz) ?_
      refine mz_WP.icmp rfl (fun c => ?_) (fun c => ?_)
      · exact absurd c (nI_ge (by omega) (by omega))
      · refine mz_WP.run 80 rfl ?_
        refine mz_WP.getf rfl (T.1) rfl (Nat.le_of_ble_eq_true rfl) ?_
        refine mz_WP.run 80 rfl ?_
        refine mz_WP.ald rfl ((o 0 (by omega)).trans hz) (vp_in_nI (by omega) (by omega)) ?_
        rw [nI_clamp (by omega)]
        refine mz_WP.cv rfl rfl (Nat.le_of_ble_eq_true rfl) rfl (T.2.1.1) rfl (s_put T.2.1.1 T.2.2.1 (by omega) (by decide) ?_)
        rw [rput_in (by omega) (by decide), rcpy_s]
        have T := T.u2 (f := rcpy (w + 1) zf mz_zn)
        refine mz_WP.run 80 rfl ?_
        have := ih (w + 1) _ (by omega) T (fun b hb => (mz_up_n (by omega)).trans (o b hb))
        rw [nI_succ] at this
        exact this
  refine mz_WP.run 2 rfl ?_
  refine loop1 8 0 _ (by omega) ?_ (fun b hb => (mz_up_n (by omega)).trans ((mz_up_n (by omega)).trans (o4 b (by omega))))
  rw [rcpy_0]
  refine ⟨mz_up_s, ⟨?_, ?_, ?_, ?_⟩, ?_, ?_, ?_, ?_⟩
  · exact (mz_up_n (by omega)).trans ((mz_up_n (by omega)).trans (R4 0 (by decide)).1)
  · exact (mz_up_n (by omega)).trans ((mz_up_n (by omega)).trans (R4 1 (by decide)).1)
  · exact (mz_up_n (by omega)).trans ((mz_up_n (by omega)).trans (R4 2 (by decide)).1)
  · exact (mz_up_n (by omega)).trans ((mz_up_n (by omega)).trans (R4 3 (by decide)).1)
  · exact (mz_up_n (by omega)).trans ((mz_up_n (by omega)).trans (R4 0 (by decide)).2)
  · exact (mz_up_n (by omega)).trans ((mz_up_n (by omega)).trans (R4 1 (by decide)).2)
  · exact (mz_up_n (by omega)).trans ((mz_up_n (by omega)).trans (R4 2 (by decide)).2)
  · exact (mz_up_n (by omega)).trans ((mz_up_n (by omega)).trans (R4 3 (by decide)).2)
/-- a fresh State at S -/
def SI (h : mz_H) (S : Nat) : Prop := h S = .inr (7, [.ref (S + 1), .ref (S + 8), .ref (S + 15), .ref (S + 22), .ref (S + 29), .ref (S + 38)]) ∧ (TA h (S + 1) (nI 0) zf zf zf ∧ TA h (S + 8) (nI 0) zf zf zf ∧ TA h (S + 15) (nI 0) zf zf zf ∧ TA h (S + 22) (nI 0) zf zf zf) ∧ TrA h (S + 29) (rcpy 8 zf mz_zn) (tfz 150 50 6) (tfz 400 100 6) (tfz 1500 400 6) (nI 50) (nI 30) ∧ BlA h (S + 38) zf zf (nI 0) (nI 0)
theorem SI.to {h' : mz_H} {S : Nat} (I : SI h S) (hh : ∀ b, S ≤ b → b ≤ S + 42 → h' b = h b) : SI h' S := by
  obtain ⟨e0, ⟨e1, e2, e3, e4⟩, e5, e6⟩ := I
  exact ⟨(hh _ (by omega) (by omega)).trans e0, ⟨e1.to (fun b _ _ => hh b (by omega) (by omega)), e2.to (fun b _ _ => hh b (by omega) (by omega)), e3.to (fun b _ _ => hh b (by omega) (by omega)), e4.to (fun b _ _ => hh b (by omega) (by omega))⟩, e5.to (fun b _ _ => hh b (by omega) (by omega)), e6.to (fun b _ _ => hh b (by omega) (by omega))⟩
theorem s_stinit (hn : 1 ≤ n) (hz : h 0 = .inl (0, 8, mz_zn)) (hs : h (n + 1) = .inr (7, mz_df 7)) (H : ∀ h', SI h' (n + 1) → (∀ b, b < n + 1 ∨ n + 1 + 42 < b → h' b = h b) → Q none (n + 42) h') : mz_wc (e + 4) 57 [.ref (n + 1)] n h Q := by
  refine mz_wc.enter (code := co_X7_init) (idx := 57) rfl rfl (Nat.le_of_ble_eq_true rfl) rfl rfl ?_
  refine mz_WP.run 80 rfl ?_
  refine mz_WP.oi rfl rfl (by omega) (Nat.le_of_ble_eq_true rfl) ?_
  refine mk_obj (hs) rfl rfl (by decide) rfl rfl (by decide) rfl rfl rfl (by decide) (by decide) (Nat.le_of_ble_eq_true rfl) (Nat.le_of_ble_eq_true rfl) rfl ?_
  refine s_tapinit (by omega) mz_up_s (fun h1 T1 q1 => ⟨rfl, (q1 _ (by omega)).trans ((mz_up_n (by omega)).trans (hs)), ?_⟩)
  refine mk_obj (mz_up_s) rfl rfl (by decide) rfl rfl (by decide) rfl rfl rfl (by decide) (by decide) (Nat.le_of_ble_eq_true rfl) (Nat.le_of_ble_eq_true rfl) rfl ?_
  refine s_tapinit (by omega) mz_up_s (fun h2 T2 q2 => ⟨rfl, (q2 _ (by omega)).trans ((mz_up_n (by omega)).trans mz_up_s), ?_⟩)
  refine mk_obj (mz_up_s) rfl rfl (by decide) rfl rfl (by decide) rfl rfl rfl (by decide) (by decide) (Nat.le_of_ble_eq_true rfl) (Nat.le_of_ble_eq_true rfl) rfl ?_
  refine s_tapinit (by omega) mz_up_s (fun h3 T3 q3 => ⟨rfl, (q3 _ (by omega)).trans ((mz_up_n (by omega)).trans mz_up_s), ?_⟩)
  refine mk_obj (mz_up_s) rfl rfl (by decide) rfl rfl (by decide) rfl rfl rfl (by decide) (by decide) (Nat.le_of_ble_eq_true rfl) (Nat.le_of_ble_eq_true rfl) rfl ?_
  refine s_tapinit (by omega) mz_up_s (fun h4 T4 q4 => ⟨rfl, (q4 _ (by omega)).trans ((mz_up_n (by omega)).trans mz_up_s), ?_⟩)
  refine mk_obj (mz_up_s) rfl rfl (by decide) rfl rfl (by decide) rfl rfl rfl (by decide) (by decide) (Nat.le_of_ble_eq_true rfl) (Nat.le_of_ble_eq_true rfl) rfl ?_
  refine s_trinit (by omega) ((mz_up_n (by omega)).trans (Eq.trans ((mz_up_n (by omega)).trans ((q4 _ (by omega)).trans ((mz_up_n (by omega)).trans ((mz_up_n (by omega)).trans ((q3 _ (by omega)).trans ((mz_up_n (by omega)).trans ((mz_up_n (by omega)).trans ((q2 _ (by omega)).trans ((mz_up_n (by omega)).trans ((mz_up_n (by omega)).trans ((q1 _ (by omega)).trans ((mz_up_n (by omega)).trans (rfl))))))))))))) hz)) mz_up_s (fun h5 T5 q5 => ⟨rfl, (q5 _ (by omega)).trans ((mz_up_n (by omega)).trans mz_up_s), ?_⟩)
  refine mk_obj (mz_up_s) rfl rfl (by decide) rfl rfl (by decide) rfl rfl rfl (by decide) (by decide) (Nat.le_of_ble_eq_true rfl) (Nat.le_of_ble_eq_true rfl) rfl ?_
  refine s_blinit mz_up_s (fun h6 T6 q6 => ⟨rfl, (q6 _ (by omega)).trans ((mz_up_n (by omega)).trans mz_up_s), ?_⟩)
  refine mz_WP.vret rfl rfl (H _ ⟨mz_up_s, ⟨?_, ?_, ?_, ?_⟩, ?_, ?_⟩ (fun b hb => ?_))
  · exact T1.to (fun b _ _ => (mz_up_n (by omega)).trans ((q6 b (by omega)).trans ((mz_up_n (by omega)).trans ((mz_up_n (by omega)).trans ((q5 b (by omega)).trans ((mz_up_n (by omega)).trans ((mz_up_n (by omega)).trans ((q4 b (by omega)).trans ((mz_up_n (by omega)).trans ((mz_up_n (by omega)).trans ((q3 b (by omega)).trans ((mz_up_n (by omega)).trans ((mz_up_n (by omega)).trans ((q2 b (by omega)).trans ((mz_up_n (by omega)).trans ((mz_up_n (by omega)).trans (rfl)))))))))))))))))
  · exact T2.to (fun b _ _ => (mz_up_n (by omega)).trans ((q6 b (by omega)).trans ((mz_up_n (by omega)).trans ((mz_up_n (by omega)).trans ((q5 b (by omega)).trans ((mz_up_n (by omega)).trans ((mz_up_n (by omega)).trans ((q4 b (by omega)).trans ((mz_up_n (by omega)).trans ((mz_up_n (by omega)).trans ((q3 b (by omega)).trans ((mz_up_n (by omega)).trans ((mz_up_n (by omega)).trans (rfl))))))))))))))
  · exact T3.to (fun b _ _ => (mz_up_n (by omega)).trans ((q6 b (by omega)).trans ((mz_up_n (by omega)).trans ((mz_up_n (by omega)).trans ((q5 b (by omega)).trans ((mz_up_n (by omega)).trans ((mz_up_n (by omega)).trans ((q4 b (by omega)).trans ((mz_up_n (by omega)).trans ((mz_up_n (by omega)).trans (rfl)))))))))))
  · exact T4.to (fun b _ _ => (mz_up_n (by omega)).trans ((q6 b (by omega)).trans ((mz_up_n (by omega)).trans ((mz_up_n (by omega)).trans ((q5 b (by omega)).trans ((mz_up_n (by omega)).trans ((mz_up_n (by omega)).trans (rfl))))))))
  · exact T5.to (fun b _ _ => (mz_up_n (by omega)).trans ((q6 b (by omega)).trans ((mz_up_n (by omega)).trans ((mz_up_n (by omega)).trans (rfl)))))
  · exact T6.to (fun b _ _ => (mz_up_n (by omega)).trans (rfl))
  · exact (mz_up_n (by omega)).trans ((q6 b (by omega)).trans ((mz_up_n (by omega)).trans ((mz_up_n (by omega)).trans ((q5 b (by omega)).trans ((mz_up_n (by omega)).trans ((mz_up_n (by omega)).trans ((q4 b (by omega)).trans ((mz_up_n (by omega)).trans ((mz_up_n (by omega)).trans ((q3 b (by omega)).trans ((mz_up_n (by omega)).trans ((mz_up_n (by omega)).trans ((q2 b (by omega)).trans ((mz_up_n (by omega)).trans ((mz_up_n (by omega)).trans ((q1 b (by omega)).trans (mz_up_n (by omega))))))))))))))))))
end MK5
