/-! the reference: the weeks of the best plan -/
def wkA (S : List Nat) (i : Nat) : Int32 := match S[i]? with
  | some s => nI s
  | none => NN
theorem inB_n {a lo hi : Nat} (ha : a < 2 ^ 31) (hl : lo < 2 ^ 31) (hh : hi < 2 ^ 31) : inB (nI a) (nI lo) (nI hi) = (decide (lo ≤ a) && decide (a < hi + 1)) := by
  unfold inB
  by_cases h1 : a < lo
  · rw [decide_eq_true (nI_lt h1 hl), decide_eq_false (show ¬ lo ≤ a by omega)]
    rfl
  · rw [decide_eq_false (nI_nlt (by omega) ha), decide_eq_true (show lo ≤ a by omega)]
    by_cases h2 : hi < a
    · rw [decide_eq_true (nI_lt h2 ha), decide_eq_false (show ¬ a < hi + 1 by omega)]
      rfl
    · rw [decide_eq_false (nI_nlt (by omega) hh), decide_eq_true (show a < hi + 1 by omega)]
      rfl
theorem inS_app {S : List Nat} {s d : Nat} : inS (S ++ [s]) d = (inS S d || (decide (s ≤ d) && decide (d < s + 7))) := by
  unfold inS
  rw [List.any_append]
  show (_ || ((decide (s ≤ d) && decide (d < s + 7)) || false)) = _
  rw [Bool.or_false]
section MW
variable {e n : Nat} {h : mz_H} {Q : mz_Q} {g : Nat → Int32} {r j : Int32} {iw : Nat → Int32} {bg : Nat → Bool}
theorem m_weekOf {kk : Nat} (ho : h 186 = mo r j) (hw : h 206 = .inl (1, 36, iw)) (hb : ∀ d, d < 28 → iw d = bI (bg d)) (hk : kk < 100) (H : Q (some (.int (wkA (wkd bg 0) kk))) n h) : mz_wc (e + 1) 146 [.ref 186, .int (nI kk)] n h Q := by
  refine mz_wc.enter (code := co_X11_weekOf) (idx := 146) rfl rfl (Nat.le_of_ble_eq_true rfl) rfl rfl ?_
  refine mz_WP.run 4 rfl ?_
  have loop : ∀ q m d, 28 - d ≤ q → d < 100 → m ≤ kk → wkA (wkd bg d) (kk - m) = wkA (wkd bg 0) kk → mz_WP (mz_wc e) e 1 co_X11_weekOf Q 4 [some (.ref 186), some (.int (nI kk)), some (.int (nI m)), some (.int (nI d))] [] n h 0 0 := by
    intro q
    induction q with
    | zero =>
      intro m d hq hd hm he
      rw [wkd_e (by omega)] at he
      have he : NN = wkA (wkd bg 0) kk := he
      refine mz_WP.run 80 rfl ?_
      refine mz_WP.icmp rfl (fun cc => ?_) (fun cc => ?_)
      · rw [← he] at H
        refine mz_WP.run 80 rfl ?_
        exact mz_WP.ret rfl rfl H
      · exact absurd (nI_le (by omega) (by omega)) cc
    | succ q ih =>
      intro m d hq hd hm he
      refine mz_WP.run 80 rfl ?_
      refine mz_WP.icmp rfl (fun cc => ?_) (fun cc => ?_)
      · have cc : nI 28 ≤ nI d := cc
        rw [nI_leI (by omega) (by omega)] at cc
        rw [wkd_e cc] at he
        have he : NN = wkA (wkd bg 0) kk := he
        rw [← he] at H
        refine mz_WP.run 80 rfl ?_
        exact mz_WP.ret rfl rfl H
      have cc : ¬ nI 28 ≤ nI d := cc
      rw [nI_leI (by omega) (by omega)] at cc
      have hd28 : d < 28 := by omega
      refine mz_WP.run 80 rfl ?_
      refine mz_WP.getf rfl (ho) rfl (Nat.le_of_ble_eq_true rfl) ?_
      refine mz_WP.run 80 rfl ?_
      refine mz_WP.blN rfl hw rfl (by omega) (by decide) ?_
      rw [hb d hd28]
      refine mz_WP.ifc rfl (fun c1 => ?_) (fun c1 => ?_)
      · have c1 := bI_f c1
        rw [wkd_n hd28 c1] at he
        refine mz_WP.run 80 rfl ?_
        have nx := ih m (d + 1) (by omega) (by omega) hm he
        rw [nI_succ d] at nx
        exact nx
      have c1 := bI_t c1
      rw [wkd_b hd28 c1] at he
      refine mz_WP.run 80 rfl ?_
      refine mz_WP.icmp rfl (fun c2 => ?_) (fun c2 => ?_)
      · have c2 : ¬ nI m = nI kk := c2
        have hmk : m < kk := by
          rcases Nat.lt_or_ge m kk with z | z
          · exact z
          · exact absurd (by rw [show m = kk by omega]) c2
        rw [show kk - m = kk - (m + 1) + 1 by omega] at he
        have he : wkA (wkd bg (d + 7)) (kk - (m + 1)) = wkA (wkd bg 0) kk := he
        refine mz_WP.run 80 rfl ?_
        have nx := ih (m + 1) (d + 7) (by omega) (by omega) (by omega) he
        rw [nI_succ m, ← nI_add d 7] at nx
        exact nx
      · have c2 : nI m = nI kk := Classical.byContradiction c2
        have hmk : m = kk := (nI_eq (by omega) (by omega)).mp c2
        subst hmk
        rw [Nat.sub_self] at he
        have he : nI d = wkA (wkd bg 0) m := he
        rw [← he] at H
        refine mz_WP.run 80 rfl ?_
        exact mz_WP.ret rfl rfl H
  exact loop 28 0 0 (by omega) (by omega) (by omega) rfl
theorem m_isOfWeek {dd : Nat} (ho : h 186 = mo r j) (hw : h 206 = .inl (1, 36, iw)) (hb : ∀ d, d < 28 → iw d = bI (bg d)) (h4 : (wkd bg 0).length ≤ 4) (hd : dd < 28) (H : Q (some (.int (bI (inS (wkd bg 0) dd)))) n h) : mz_wc (e + 2) 147 [.ref 186, .int (nI dd)] n h Q := by
  have h28 : ∀ (i s : Nat), (wkd bg 0)[i]? = some s → s < 28 := fun i s hs => (wkd_ge 28 0 rfl s (List.mem_of_getElem? hs)).2
  revert H h4 h28
  generalize hS : wkd bg 0 = S
  intro h4 H h28
  refine mz_wc.enter (code := co_X11_isOfWeek) (idx := 147) rfl rfl (Nat.le_of_ble_eq_true rfl) rfl rfl ?_
  refine mz_WP.run 4 rfl ?_
  have loop : ∀ q i x4, i + q = 4 → mz_WP (mz_wc (e + 1)) (e + 1) 2 co_X11_isOfWeek Q 4 [some (.ref 186), some (.int (nI dd)), some (.int (bI (inS (S.take i) dd))), some (.int (nI i)), x4] [] n h 0 0 := by
    intro q
    induction q with
    | zero =>
      intro i x4 hi
      have hi : i = 4 := by omega
      subst hi
      refine mz_WP.run 80 rfl ?_
      refine mz_WP.icmp rfl (fun cc => ?_) (fun cc => ?_)
      · rw [List.take_of_length_le h4]
        refine mz_WP.run 80 rfl ?_
        exact mz_WP.zret rfl rfl (bI_01 _) H
      · exact absurd (nI_le (Nat.le_refl _) (by decide)) cc
    | succ q ih =>
      intro i x4 hi
      have nx := fun x4 => ih (i + 1) x4 (by omega)
      have yes : ∀ x4, inS (S.take (i + 1)) dd = true → mz_WP (mz_wc (e + 1)) (e + 1) 2 co_X11_isOfWeek Q 39 [some (.ref 186), some (.int (nI dd)), some (.int (bI (inS (S.take i) dd))), some (.int (nI i)), x4] [] n h 0 0 := by
        intro x4 hz
        have nx := nx x4
        rw [hz, nI_succ i] at nx
        refine mz_WP.run 80 rfl ?_
        refine mz_WP.run 80 rfl ?_
        exact nx
      have no : ∀ x4, inS (S.take (i + 1)) dd = false → mz_WP (mz_wc (e + 1)) (e + 1) 2 co_X11_isOfWeek Q 43 [some (.ref 186), some (.int (nI dd)), some (.int (bI (inS (S.take i) dd))), some (.int (nI i)), x4] [] n h 0 0 := by
        intro x4 hz
        have nx := nx x4
        rw [hz, nI_succ i] at nx
        refine mz_WP.run 80 rfl ?_
        exact nx
      refine mz_WP.run 80 rfl ?_
      refine mz_WP.icmp rfl (fun cc => ?_) (fun cc => ?_)
      · exact absurd cc (nI_ge (by omega) (by decide))
      refine mz_WP.run 80 rfl ?_
      refine mz_WP.cv rfl rfl (Nat.le_of_ble_eq_true rfl) rfl (ho) rfl (m_weekOf ho hw hb (by omega) ?_)
      rw [hS]
      cases hs : S[i]? with
      | none =>
        have hk : S.take (i + 1) = S.take i := by
          have hl : S.length ≤ i := by
            rcases Nat.lt_or_ge i S.length with z | z
            · obtain ⟨s, hs'⟩ := geti z
              rw [hs'] at hs
              cases hs
            · exact z
          rw [List.take_of_length_le hl, List.take_of_length_le (by omega)]
        have hA : wkA S i = NN := by
          unfold wkA
          rw [hs]
        rw [hA]
        rw [hk] at yes no
        refine mz_WP.run 80 rfl ?_
        refine mz_WP.ifc rfl (fun c1 => ?_) (fun c1 => ?_)
        · exact yes _ (bI_t c1)
        have c1 := bI_f (Classical.byContradiction c1)
        refine mz_WP.run 80 rfl ?_
        refine mz_WP.ifc rfl (fun c2 => ?_) (fun c2 => ?_)
        · exact no _ c1
        · exact absurd (by decide : NN < 0) c2
      | some s =>
        have hs28 := h28 i s hs
        have hk := tk hs
        have hA : wkA S i = nI s := by
          unfold wkA
          rw [hs]
        rw [hA]
        rw [hk, inS_app] at yes no
        refine mz_WP.run 80 rfl ?_
        refine mz_WP.ifc rfl (fun c1 => ?_) (fun c1 => ?_)
        · exact yes _ (by rw [bI_t c1, Bool.true_or])
        have c1 := bI_f (Classical.byContradiction c1)
        rw [c1, Bool.false_or] at yes no
        rw [c1]
        refine mz_WP.run 80 rfl ?_
        refine mz_WP.ifc rfl (fun c2 => ?_) (fun c2 => ?_)
        · exact absurd c2 (nI_pos (by omega))
        refine mz_WP.run 80 rfl ?_
        rw [nI_add]
        refine mz_WP.cs rfl (by decide) rfl (Nat.le_of_ble_eq_true rfl) rfl (m_in ?_)
        rw [inB_n (by omega) (by omega) (by omega)]
        refine mz_WP.ifc rfl (fun c3 => ?_) (fun c3 => ?_)
        · exact no _ (bI_f c3)
        · refine mz_WP.run 0 rfl ?_
          exact yes _ (bI_t c3)
  exact loop 4 0 none rfl
end MW
