/-! the reference's maker (by program, wip/whole/gen67.py) -/
def mTy : List (Nat × Nat) := [(0, 423), (0, 846), (1, 2), (0, 48), (0, 48), (0, 48), (0, 48), (0, 48), (1, 48), (0, 48), (0, 48), (0, 48), (0, 48), (0, 48), (0, 28), (0, 28), (0, 28), (0, 36), (0, 36), (1, 36)]
def AI (h : mz_H) (i : Nat) : Prop := ∀ q t k, q < i → mTy[q]? = some (t, k) → h (187 + q) = .inl (t, k, zf)
section MMk
variable {e d rk : Nat} {code : List mz_I} {h h0 : mz_H} {Q : mz_Q} {L : List (Option Value)} {bc bs : Nat}
theorem AI.s {i t k : Nat} {x : mz_C} (A : AI h i) (hq : mTy[i]? = some (t, k)) : AI (mz_up (mz_up h (187 + i) (.inl (t, k, zf))) 186 x) (i + 1) := by
  intro q t' k' hq1 hq2
  rw [mz_up_n (by omega)]
  by_cases hqi : q = i
  · subst hqi
    rw [hq] at hq2
    cases hq2
    exact mz_up_s
  · rw [mz_up_n (by omega)]
    exact A q t' k' (by omega) hq2
theorem mk_arrI {i k y cp4 len1 x1 y1 len4 pc pc1 : Nat} {fs : List Value} (ha : h 186 = .inr (11, fs)) (A : AI h i) (o : ∀ b, b < 186 → h b = h0 b) (hr0 : mz_run code 2 pc L [] = (pc1, L, [.int (nI k), .ref 186])) (l1 : mz_lk code pc1 = some (.newarray .int, len1, x1, y1)) (l4 : mz_lk code (pc1 + 2) = some (.putfield cp4, len4, 11, y)) (hT : mTy[i]? = some (0, k)) (hk2 : k ≤ 1000) (b1 : 1 ≤ bc) (b2 : k ≤ bs) (hy : y < 22) (hy2 : y < fs.length) (ht : mz_vt (mz_ty 11 y) (.ref 0) = true) (H : ∀ h', h' 186 = .inr (11, fs.set y (.ref (187 + i))) → AI h' (i + 1) → (∀ b, b < 186 → h' b = h0 b) → mz_WP (mz_wc (e + 1)) d rk code Q (pc1 + 5) L [] (185 + (i + 1)) h' (bc - 1) (bs - k)) : mz_WP (mz_wc (e + 1)) d rk code Q pc L [] (185 + i) h bc bs := by
  have hck : (nI k).toNatClampNeg = k := nI_clamp (by omega)
  refine mz_WP.run 2 hr0 ?_
  refine mz_WP.newI l1 (nI_pos (by omega)) (by rw [hck]; exact hk2) b1 (by rw [hck]; exact b2) ?_
  rw [hck, show 185 + i + 2 = 187 + i by omega]
  have htv : mz_vt (mz_ty 11 y) (.ref (187 + i)) = true := by
    revert ht
    cases mz_ty 11 y <;> exact id
  refine mz_WP.putf l4 ((mz_up_n (by omega)).trans ha) hy hy2 htv ?_
  exact H _ mz_up_s (A.s hT) (fun b hb => (mz_up_n (by omega)).trans ((mz_up_n (by omega)).trans (o b hb)))
theorem mk_arrB {i k y cp4 len1 x1 y1 len4 pc pc1 : Nat} {fs : List Value} (ha : h 186 = .inr (11, fs)) (A : AI h i) (o : ∀ b, b < 186 → h b = h0 b) (hr0 : mz_run code 2 pc L [] = (pc1, L, [.int (nI k), .ref 186])) (l1 : mz_lk code pc1 = some (.newarray .boolean, len1, x1, y1)) (l4 : mz_lk code (pc1 + 2) = some (.putfield cp4, len4, 11, y)) (hT : mTy[i]? = some (1, k)) (hk2 : k ≤ 1000) (b1 : 1 ≤ bc) (b2 : k ≤ bs) (hy : y < 22) (hy2 : y < fs.length) (ht : mz_vt (mz_ty 11 y) (.ref 0) = true) (H : ∀ h', h' 186 = .inr (11, fs.set y (.ref (187 + i))) → AI h' (i + 1) → (∀ b, b < 186 → h' b = h0 b) → mz_WP (mz_wc (e + 1)) d rk code Q (pc1 + 5) L [] (185 + (i + 1)) h' (bc - 1) (bs - k)) : mz_WP (mz_wc (e + 1)) d rk code Q pc L [] (185 + i) h bc bs := by
  have hck : (nI k).toNatClampNeg = k := nI_clamp (by omega)
  refine mz_WP.run 2 hr0 ?_
  refine mz_WP.newB l1 (nI_pos (by omega)) (by rw [hck]; exact hk2) b1 (by rw [hck]; exact b2) ?_
  rw [hck, show 185 + i + 2 = 187 + i by omega]
  have htv : mz_vt (mz_ty 11 y) (.ref (187 + i)) = true := by
    revert ht
    cases mz_ty 11 y <;> exact id
  refine mz_WP.putf l4 ((mz_up_n (by omega)).trans ha) hy hy2 htv ?_
  exact H _ mz_up_s (A.s hT) (fun b hb => (mz_up_n (by omega)).trans ((mz_up_n (by omega)).trans (o b hb)))
end MMk
section MMk2
variable {e : Nat} {h : mz_H} {Q : mz_Q}
def zP (f : Nat → Int32) : Prop := ∀ i, i < 8 → f (388 + i) = nI (i % 5 + 1)
theorem m_init (ha : h 186 = .inr (11, mz_df 11)) (H : ∀ h' g, GE gz0 g → (∀ gi, MI h' g 0 gi) → (∀ b, b < 186 → h' b = h b) → Q none 205 h') : mz_wc (e + 2) 117 [.ref 186] 185 h Q := by
  refine mz_wc.enter (code := co_X11_init) (idx := 117) rfl rfl (Nat.le_of_ble_eq_true rfl) rfl rfl ?_
  refine mz_WP.run 80 rfl ?_
  refine mz_WP.oi rfl rfl (by omega) (Nat.le_of_ble_eq_true rfl) ?_
  refine mk_arrI (i := 0) (h0 := h) ha (fun q t k hq => by omega) (fun _ _ => rfl) rfl rfl rfl rfl (by decide) (Nat.le_of_ble_eq_true rfl) (Nat.le_of_ble_eq_true rfl) (by decide) (Nat.le_of_ble_eq_true rfl) rfl (fun h1 a1 A1 o1 => ?_)
  refine mk_arrI (i := 1) a1 A1 o1 rfl rfl rfl rfl (by decide) (Nat.le_of_ble_eq_true rfl) (Nat.le_of_ble_eq_true rfl) (by decide) (Nat.le_of_ble_eq_true rfl) rfl (fun h2 a2 A2 o2 => ?_)
  refine mk_arrB (i := 2) a2 A2 o2 rfl rfl rfl rfl (by decide) (Nat.le_of_ble_eq_true rfl) (Nat.le_of_ble_eq_true rfl) (by decide) (Nat.le_of_ble_eq_true rfl) rfl (fun h3 a3 A3 o3 => ?_)
  refine mk_arrI (i := 3) a3 A3 o3 rfl rfl rfl rfl (by decide) (Nat.le_of_ble_eq_true rfl) (Nat.le_of_ble_eq_true rfl) (by decide) (Nat.le_of_ble_eq_true rfl) rfl (fun h4 a4 A4 o4 => ?_)
  refine mk_arrI (i := 4) a4 A4 o4 rfl rfl rfl rfl (by decide) (Nat.le_of_ble_eq_true rfl) (Nat.le_of_ble_eq_true rfl) (by decide) (Nat.le_of_ble_eq_true rfl) rfl (fun h5 a5 A5 o5 => ?_)
  refine mk_arrI (i := 5) a5 A5 o5 rfl rfl rfl rfl (by decide) (Nat.le_of_ble_eq_true rfl) (Nat.le_of_ble_eq_true rfl) (by decide) (Nat.le_of_ble_eq_true rfl) rfl (fun h6 a6 A6 o6 => ?_)
  refine mk_arrI (i := 6) a6 A6 o6 rfl rfl rfl rfl (by decide) (Nat.le_of_ble_eq_true rfl) (Nat.le_of_ble_eq_true rfl) (by decide) (Nat.le_of_ble_eq_true rfl) rfl (fun h7 a7 A7 o7 => ?_)
  refine mk_arrI (i := 7) a7 A7 o7 rfl rfl rfl rfl (by decide) (Nat.le_of_ble_eq_true rfl) (Nat.le_of_ble_eq_true rfl) (by decide) (Nat.le_of_ble_eq_true rfl) rfl (fun h8 a8 A8 o8 => ?_)
  refine mk_arrB (i := 8) a8 A8 o8 rfl rfl rfl rfl (by decide) (Nat.le_of_ble_eq_true rfl) (Nat.le_of_ble_eq_true rfl) (by decide) (Nat.le_of_ble_eq_true rfl) rfl (fun h9 a9 A9 o9 => ?_)
  refine mk_arrI (i := 9) a9 A9 o9 rfl rfl rfl rfl (by decide) (Nat.le_of_ble_eq_true rfl) (Nat.le_of_ble_eq_true rfl) (by decide) (Nat.le_of_ble_eq_true rfl) rfl (fun h10 a10 A10 o10 => ?_)
  refine mk_arrI (i := 10) a10 A10 o10 rfl rfl rfl rfl (by decide) (Nat.le_of_ble_eq_true rfl) (Nat.le_of_ble_eq_true rfl) (by decide) (Nat.le_of_ble_eq_true rfl) rfl (fun h11 a11 A11 o11 => ?_)
  refine mk_arrI (i := 11) a11 A11 o11 rfl rfl rfl rfl (by decide) (Nat.le_of_ble_eq_true rfl) (Nat.le_of_ble_eq_true rfl) (by decide) (Nat.le_of_ble_eq_true rfl) rfl (fun h12 a12 A12 o12 => ?_)
  refine mk_arrI (i := 12) a12 A12 o12 rfl rfl rfl rfl (by decide) (Nat.le_of_ble_eq_true rfl) (Nat.le_of_ble_eq_true rfl) (by decide) (Nat.le_of_ble_eq_true rfl) rfl (fun h13 a13 A13 o13 => ?_)
  refine mk_arrI (i := 13) a13 A13 o13 rfl rfl rfl rfl (by decide) (Nat.le_of_ble_eq_true rfl) (Nat.le_of_ble_eq_true rfl) (by decide) (Nat.le_of_ble_eq_true rfl) rfl (fun h14 a14 A14 o14 => ?_)
  refine mk_arrI (i := 14) a14 A14 o14 rfl rfl rfl rfl (by decide) (Nat.le_of_ble_eq_true rfl) (Nat.le_of_ble_eq_true rfl) (by decide) (Nat.le_of_ble_eq_true rfl) rfl (fun h15 a15 A15 o15 => ?_)
  refine mk_arrI (i := 15) a15 A15 o15 rfl rfl rfl rfl (by decide) (Nat.le_of_ble_eq_true rfl) (Nat.le_of_ble_eq_true rfl) (by decide) (Nat.le_of_ble_eq_true rfl) rfl (fun h16 a16 A16 o16 => ?_)
  refine mk_arrI (i := 16) a16 A16 o16 rfl rfl rfl rfl (by decide) (Nat.le_of_ble_eq_true rfl) (Nat.le_of_ble_eq_true rfl) (by decide) (Nat.le_of_ble_eq_true rfl) rfl (fun h17 a17 A17 o17 => ?_)
  refine mk_arrI (i := 17) a17 A17 o17 rfl rfl rfl rfl (by decide) (Nat.le_of_ble_eq_true rfl) (Nat.le_of_ble_eq_true rfl) (by decide) (Nat.le_of_ble_eq_true rfl) rfl (fun h18 a18 A18 o18 => ?_)
  refine mk_arrI (i := 18) a18 A18 o18 rfl rfl rfl rfl (by decide) (Nat.le_of_ble_eq_true rfl) (Nat.le_of_ble_eq_true rfl) (by decide) (Nat.le_of_ble_eq_true rfl) rfl (fun h19 a19 A19 o19 => ?_)
  refine mk_arrB (i := 19) a19 A19 o19 rfl rfl rfl rfl (by decide) (Nat.le_of_ble_eq_true rfl) (Nat.le_of_ble_eq_true rfl) (by decide) (Nat.le_of_ble_eq_true rfl) rfl (fun h20 a20 A20 o20 => ?_)
  have ho : h20 186 = mo 0 0 := a20
  have hg : h20 187 = .inl (0, 423, zf) := A20 0 0 423 (by omega) rfl
  have ho' : ∀ {z : mz_C}, mz_up h20 187 z 186 = mo 0 0 := fun {z} => (mz_up_n (by omega)).trans ho
  have loop2 : ∀ q w (f : Nat → Int32), w + q = 6 → 1 ≤ w → zP f → (∀ v, 1 ≤ v → v < w → f (395 + v) = nI (150 + 50 * v) ∧ f (400 + v) = nI (400 + 100 * v) ∧ f (405 + v) = nI (1500 + 400 * v)) → (∀ b, b < 388 ∨ 410 < b → f b = 0) → mz_WP (mz_wc (e + 1)) (e + 1) 0 co_X11_init Q 196 [some (.ref 186), some (.int (nI w))] [] 205 (mz_up h20 187 (.inl (0, 423, f))) 0 0 := by
    intro q
    induction q with
    | zero =>
      intro w f hw hw1 hz hv h0
      have hw : w = 6 := by omega
      subst hw
      refine mz_WP.run 80 rfl ?_
      refine mz_WP.icmp rfl (fun cc => ?_) (fun cc => ?_)
      · refine mz_WP.run 80 rfl ?_
        refine mz_WP.getf rfl (ho') rfl (Nat.le_of_ble_eq_true rfl) ?_
        refine mz_WP.run 80 rfl ?_
        refine mz_WP.asN (k := 411) rfl mz_up_s (by omega) rfl (by omega) (by decide) ?_
        rw [mz_up_up]
        refine mz_WP.run 80 rfl ?_
        refine mz_WP.getf rfl (ho') rfl (Nat.le_of_ble_eq_true rfl) ?_
        refine mz_WP.run 80 rfl ?_
        refine mz_WP.asN (k := 412) rfl mz_up_s (by omega) rfl (by omega) (by decide) ?_
        rw [mz_up_up]
        refine mz_WP.vret rfl rfl (H _ _ (GE.of (fun x hx => ?_)) (fun gi => ⟨⟨0, 0, ho'⟩, mz_up_s, ⟨zf, (mz_up_n (by omega)).trans (A20 1 0 846 (by omega) rfl), fun i hi hb => ?_⟩, ⟨zf, (mz_up_n (by omega)).trans (A20 2 1 2 (by omega) rfl), fun i hi => ?_⟩, ?_, ?_, ?_⟩) (fun b hb => (mz_up_n (by omega)).trans (o20 b hb)))
        · unfold gz0
          by_cases x1 : x < 388
          · rw [if_pos x1, updN (by omega), updN (by omega), h0 x (Or.inl x1)]
          · rw [if_neg x1]
            by_cases x2 : x < 396
            · rw [if_pos x2, updN (by omega), updN (by omega), mz_znI _ (by omega)]
              have := hz (x - 388) (by omega)
              rw [show 388 + (x - 388) = x by omega] at this
              exact this
            · rw [if_neg x2]
              by_cases x3 : x < 401
              · rw [if_pos x3, updN (by omega), updN (by omega)]
                have := (hv (x - 395) (by omega) (by omega)).1
                rw [show 395 + (x - 395) = x by omega] at this
                exact this
              · rw [if_neg x3]
                by_cases x4 : x < 406
                · rw [if_pos x4, updN (by omega), updN (by omega)]
                  have := (hv (x - 400) (by omega) (by omega)).2.1
                  rw [show 400 + (x - 400) = x by omega] at this
                  exact this
                · rw [if_neg x4]
                  by_cases x5 : x < 411
                  · rw [if_pos x5, updN (by omega), updN (by omega)]
                    have := (hv (x - 405) (by omega) (by omega)).2.2
                    rw [show 405 + (x - 405) = x by omega] at this
                    exact this
                  · rw [if_neg x5]
                    by_cases x6 : x = 411
                    · rw [if_pos x6, updN (by omega), x6, updS]
                    · rw [if_neg x6]
                      by_cases x7 : x = 412
                      · rw [if_pos x7, x7, updS]
                      · rw [if_neg x7, updN x7, updN x6, h0 x (Or.inr (by omega))]
        · have : ∀ i, i < 2 → ¬ 0 / 2 ^ i % 2 = 1 := by decide
          exact absurd hb (this i hi)
        · have : ∀ i, i < 2 → (0 : Int32) = nI (0 / 2 ^ i % 2) := by decide
          exact this i hi
        · exact ⟨zf, zf, zf, zf, zf, zf, (mz_up_n (by omega)).trans (A20 3 0 48 (by omega) rfl), (mz_up_n (by omega)).trans (A20 4 0 48 (by omega) rfl), (mz_up_n (by omega)).trans (A20 5 0 48 (by omega) rfl), (mz_up_n (by omega)).trans (A20 6 0 48 (by omega) rfl), (mz_up_n (by omega)).trans (A20 7 0 48 (by omega) rfl), (mz_up_n (by omega)).trans (A20 8 1 48 (by omega) rfl)⟩
        · exact ⟨zf, zf, zf, zf, zf, (mz_up_n (by omega)).trans (A20 9 0 48 (by omega) rfl), (mz_up_n (by omega)).trans (A20 10 0 48 (by omega) rfl), (mz_up_n (by omega)).trans (A20 11 0 48 (by omega) rfl), (mz_up_n (by omega)).trans (A20 12 0 48 (by omega) rfl), (mz_up_n (by omega)).trans (A20 13 0 48 (by omega) rfl)⟩
        · exact ⟨zf, zf, zf, zf, zf, zf, (mz_up_n (by omega)).trans (A20 14 0 28 (by omega) rfl), (mz_up_n (by omega)).trans (A20 15 0 28 (by omega) rfl), (mz_up_n (by omega)).trans (A20 16 0 28 (by omega) rfl), (mz_up_n (by omega)).trans (A20 17 0 36 (by omega) rfl), (mz_up_n (by omega)).trans (A20 18 0 36 (by omega) rfl), (mz_up_n (by omega)).trans (A20 19 1 36 (by omega) rfl)⟩
      · exact absurd (by decide : nI 5 < nI 6) cc
    | succ q ih =>
      intro w f hw hw1 hz hv h0
      refine mz_WP.run 80 rfl ?_
      refine mz_WP.icmp rfl (fun cc => ?_) (fun cc => ?_)
      · exact absurd cc (nI_nlt (by omega) (by omega))
      refine mz_WP.run 80 rfl ?_
      refine mz_WP.getf rfl (ho') rfl (Nat.le_of_ble_eq_true rfl) ?_
      refine mz_WP.run 80 rfl ?_
      refine mz_WP.asN (k := 395 + w) rfl mz_up_s (by omega) (by rw [nI_add, pk_sub (by omega)]; congr 1; omega) (by omega) (by decide) ?_
      rw [mz_up_up, pk_mul, nI_add]
      refine mz_WP.run 80 rfl ?_
      refine mz_WP.getf rfl (ho') rfl (Nat.le_of_ble_eq_true rfl) ?_
      refine mz_WP.run 80 rfl ?_
      refine mz_WP.asN (k := 400 + w) rfl mz_up_s (by omega) (by rw [nI_add, pk_sub (by omega)]; congr 1; omega) (by omega) (by decide) ?_
      rw [mz_up_up, pk_mul, nI_add]
      refine mz_WP.run 80 rfl ?_
      refine mz_WP.getf rfl (ho') rfl (Nat.le_of_ble_eq_true rfl) ?_
      refine mz_WP.run 80 rfl ?_
      refine mz_WP.asN (k := 405 + w) rfl mz_up_s (by omega) (by rw [nI_add, pk_sub (by omega)]; congr 1; omega) (by omega) (by decide) ?_
      rw [mz_up_up, pk_mul, nI_add]
      refine mz_WP.run 80 rfl ?_
      have nx := ih (w + 1) (upd (upd (upd f (395 + w) (nI (150 + 50 * w))) (400 + w) (nI (400 + 100 * w))) (405 + w) (nI (1500 + 400 * w))) (by omega) (by omega) (fun i hi => by
        rw [updN (by omega), updN (by omega), updN (by omega)]
        exact hz i hi) (fun v v1 v2 => by
        by_cases hvw : v = w
        · subst hvw
          rw [updN (show 395 + v ≠ 405 + v by omega), updN (show 395 + v ≠ 400 + v by omega), updS, updN (show 400 + v ≠ 405 + v by omega), updS, updS]
          exact ⟨rfl, rfl, rfl⟩
        · obtain ⟨p1, p2, p3⟩ := hv v v1 (by omega)
          rw [updN (by omega), updN (by omega), updN (by omega), updN (by omega), updN (by omega), updN (by omega), updN (by omega), updN (by omega), updN (by omega)]
          exact ⟨p1, p2, p3⟩) (fun b hb => by
        rw [updN (by omega), updN (by omega), updN (by omega)]
        exact h0 b hb)
      rw [nI_succ w] at nx
      exact nx
  have loop1 : ∀ q s (f : Nat → Int32), s + q = 8 → (∀ i, i < s → f (388 + i) = nI (i % 5 + 1)) → (∀ b, b < 388 ∨ 410 < b → f b = 0) → mz_WP (mz_wc (e + 1)) (e + 1) 0 co_X11_init Q 167 [some (.ref 186), some (.int (nI s))] [] 205 (mz_up h20 187 (.inl (0, 423, f))) 0 0 := by
    intro q
    induction q with
    | zero =>
      intro s f hs hz h0
      have hs : s = 8 := by omega
      subst hs
      refine mz_WP.run 80 rfl ?_
      refine mz_WP.icmp rfl (fun cc => ?_) (fun cc => ?_)
      · refine mz_WP.run 2 rfl ?_
        exact loop2 5 1 f (by omega) (by omega) hz (fun v v1 v2 => by omega) h0
      · exact absurd (by decide : nI 8 ≤ nI 8) cc
    | succ q ih =>
      intro s f hs hz h0
      refine mz_WP.run 80 rfl ?_
      refine mz_WP.icmp rfl (fun cc => ?_) (fun cc => ?_)
      · exact absurd cc (nI_ge (by omega) (by omega))
      refine mz_WP.run 80 rfl ?_
      refine mz_WP.getf rfl (ho') rfl (Nat.le_of_ble_eq_true rfl) ?_
      refine mz_WP.run 80 rfl ?_
      refine mz_WP.rem rfl (by decide) ?_
      rw [pk_rem (by omega) (by omega) (by omega)]
      refine mz_WP.run 80 rfl ?_
      rw [nI_add (s % 5)]
      refine mz_WP.asN (k := 388 + s) rfl mz_up_s (by omega) (nI_add _ _) (by omega) (by decide) ?_
      rw [mz_up_up]
      refine mz_WP.run 80 rfl ?_
      have nx := ih (s + 1) (upd f (388 + s) (nI (s % 5 + 1))) (by omega) (fun i hi => by
        by_cases his : i = s
        · subst his
          rw [updS]
        · rw [updN (by omega)]
          exact hz i (by omega)) (fun b hb => by
        rw [updN (by omega)]
        exact h0 b hb)
      rw [nI_succ s] at nx
      exact nx
  have start := loop1 8 0 zf rfl (fun i hi => by omega) (fun b hb => rfl)
  rw [mz_up_id hg] at start
  refine mz_WP.run 2 rfl ?_
  exact start
end MMk2
