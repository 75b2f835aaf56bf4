/-! Plan.markWeeks, Plan.build, Bill.reckon -/
section PB
variable {e n : Nat} {h : mz_H} {Q : mz_Q} {cf wf wb sr iw : Nat → Int32} {sm wd ow : Nat → Int32} {zr fr cr wr : Nat → Int32} {mr ne : Int32}
theorem s_mark {bg : Nat → Bool} (F : Fx h) (hwb : ∀ d, d < 28 → wb d = bI (bg d)) (h4 : (wkd bg 0).length ≤ 4) (H : ∀ sr iw : Nat → Int32, (∀ j s, (wkd bg 0)[j]? = some s → sr j = nI s) → (∀ d, d < 28 → iw d = bI (inS (wkd bg 0) d)) → Q none n (plH h cf wf wb sr iw)) : mz_wc (e + 2) 33 [.ref 175] n (plH h cf wf wb sr iw) Q := by
  have F' : ∀ {cf wf wb sr iw : Nat → Int32}, Fx (plH h cf wf wb sr iw) := pl_F F
  refine mz_wc.enter (code := co_X4_markWeeks) (idx := 33) rfl rfl (Nat.le_of_ble_eq_true rfl) rfl rfl ?_
  refine mz_WP.run 6 rfl ?_
  have loop : ∀ q d, d + q = 28 → ∀ (S : List Nat) (bh : Nat) (sr iw : Nat → Int32), bh ≤ 34 → wkd bg 0 = S ++ wkd bg (max d bh) → (∀ s ∈ S, s < d ∧ s + 7 ≤ bh) → (bh = 0 ∨ ∃ s, s ∈ S ∧ bh = s + 7) → (∀ j s, S[j]? = some s → sr j = nI s) → (∀ j, j < d → iw j = bI (inS S j)) → mz_WP (mz_wc (e + 1)) (e + 1) 0 co_X4_markWeeks Q 6 [some (.ref 175), some (.int (nI S.length)), some (.int (nI bh)), some (.int (nI d))] [] n (plH h cf wf wb sr iw) 0 0 := by
    intro q
    induction q with
    | zero =>
      intro d hd S bh sr iw hbh hS h1 h2 h3 h5
      have hd : d = 28 := by omega
      subst hd
      refine mz_WP.run 80 rfl ?_
      refine mz_WP.icmp rfl (fun c => ?_) (fun c => ?_)
      · have hS : wkd bg 0 = S := by rw [hS, wkd_e (by omega), List.append_nil]
        refine mz_WP.vret rfl rfl (H sr iw ?_ ?_)
        · rw [hS]; exact h3
        · rw [hS]; exact h5
      · exact absurd (nI_le (Nat.le_refl _) (by decide)) c
    | succ q ih =>
      intro d hd S bh sr iw hbh hS h1 h2 h3 h5
      -- from the mark of the day on
      have k46 : ∀ (S : List Nat) (bh : Nat) (sr : Nat → Int32), bh ≤ 34 → wkd bg 0 = S ++ wkd bg (max (d + 1) bh) → (∀ s ∈ S, s ≤ d ∧ s + 7 ≤ bh) → (bh = 0 ∨ ∃ s, s ∈ S ∧ bh = s + 7) → (∀ j s, S[j]? = some s → sr j = nI s) → (∀ j, j < d → iw j = bI (inS S j)) → mz_WP (mz_wc (e + 1)) (e + 1) 0 co_X4_markWeeks Q 46 [some (.ref 175), some (.int (nI S.length)), some (.int (nI bh)), some (.int (nI d))] [] n (plH h cf wf wb sr iw) 0 0 := by
        intro S bh sr hbh hS h1 h2 h3 h5
        have k61 : ∀ b : Bool, (b = true ↔ d < bh) → mz_WP (mz_wc (e + 1)) (e + 1) 0 co_X4_markWeeks Q 61 [some (.ref 175), some (.int (nI S.length)), some (.int (nI bh)), some (.int (nI d))] [.int (bI b), .int (nI d), .ref 184] n (plH h cf wf wb sr iw) 0 0 := by
          intro b hb
          have hin : inS S d = b := by
            cases b with
            | true =>
              rcases h2 with z | ⟨s, z1, z2⟩
              · have := hb.mp rfl
                omega
              · have := hb.mp rfl
                exact inS_iff.mpr ⟨s, z1, (h1 s z1).1, by omega⟩
            | false =>
              refine Bool.eq_false_iff.mpr (fun z => ?_)
              obtain ⟨s, z1, z2, z3⟩ := inS_iff.mp z
              have := (h1 s z1).2
              exact absurd (hb.mpr (by omega)) (by decide)
          refine mz_WP.cv rfl rfl (Nat.le_of_ble_eq_true rfl) rfl (F' _ _ rfl) rfl (s_put (F' _ _ rfl) rfl (by decide) (by decide) ?_)
          rw [pl_u5, rput_in (by omega) (by decide)]
          refine mz_WP.run 80 rfl ?_
          have := ih (d + 1) (by omega) S bh sr (upd iw d (bI b)) hbh hS (fun s hs => ⟨by have := (h1 s hs).1; omega, (h1 s hs).2⟩) h2 h3 (fun j hj => by
            by_cases hjd : j = d
            · subst hjd
              rw [updS, hin]
            · rw [updN hjd]
              exact h5 j (by omega))
          rw [nI_succ d] at this
          exact this
        refine mz_WP.run 80 rfl ?_
        refine mz_WP.getf rfl (F' _ _ rfl) rfl (Nat.le_of_ble_eq_true rfl) ?_
        refine mz_WP.run 80 rfl ?_
        refine mz_WP.icmp rfl (fun c => ?_) (fun c => ?_)
        · refine mz_WP.run 80 rfl ?_
          refine k61 false ⟨fun z => absurd z (by decide), fun z => absurd c (nI_ge z (by omega))⟩
        · refine mz_WP.run 80 rfl ?_
          refine k61 true ⟨fun _ => ?_, fun _ => rfl⟩
          rcases Nat.lt_or_ge d bh with z | z
          · exact z
          · exact absurd (nI_le z (by omega)) c
      have skip : max d bh = d → bg d = false → mz_WP (mz_wc (e + 1)) (e + 1) 0 co_X4_markWeeks Q 46 [some (.ref 175), some (.int (nI S.length)), some (.int (nI bh)), some (.int (nI d))] [] n (plH h cf wf wb sr iw) 0 0 := by
        intro hm hb
        refine k46 S bh sr hbh ?_ (fun s hs => ⟨by have := (h1 s hs).1; omega, (h1 s hs).2⟩) h2 h3 h5
        rw [hS, hm, wkd_n (by omega) hb, show max (d + 1) bh = d + 1 by omega]
      refine mz_WP.run 80 rfl ?_
      refine mz_WP.icmp rfl (fun c => ?_) (fun c => ?_)
      · exact absurd c (nI_ge (by omega) (by decide))
      · refine mz_WP.run 80 rfl ?_
        refine mz_WP.icmp rfl (fun c1 => ?_) (fun c1 => ?_)
        · have hlt : d < bh := (nI_ltI (by omega) (by omega)).mp c1
          refine k46 S bh sr hbh ?_ (fun s hs => ⟨by have := (h1 s hs).1; omega, (h1 s hs).2⟩) h2 h3 h5
          rw [hS, show max d bh = bh by omega, show max (d + 1) bh = bh by omega]
        · have hge : bh ≤ d := by
            rcases Nat.lt_or_ge d bh with z | z
            · exact absurd (nI_lt z (by omega)) c1
            · exact z
          have hm : max d bh = d := by omega
          refine mz_WP.run 80 rfl ?_
          refine mz_WP.getf rfl (F' _ _ rfl) rfl (Nat.le_of_ble_eq_true rfl) ?_
          refine mz_WP.run 80 rfl ?_
          refine mz_WP.cv rfl rfl (Nat.le_of_ble_eq_true rfl) rfl (F' _ _ rfl) rfl (s_at (F' _ _ rfl) rfl (by decide) ?_)
          rw [rat_in (by omega) (by decide), hwb d (by omega)]
          refine mz_WP.run 80 rfl ?_
          refine mz_WP.icmp rfl (fun c2 => ?_) (fun c2 => ?_)
          · have hb : bg d = false := by
              cases hb : bg d with
              | false => rfl
              | true => rw [hb] at c2; exact absurd rfl c2
            exact skip hm hb
          · have hb : bg d = true := by
              cases hb : bg d with
              | true => rfl
              | false => rw [hb] at c2; exact absurd (show ¬ (0 : Int32) = 1 by decide) c2
            have hS2 : wkd bg 0 = (S ++ [d]) ++ wkd bg (d + 7) := by rw [hS, hm, wkd_b (by omega) hb, List.append_assoc]; rfl
            have hl4 : S.length < 4 := by
              rw [hS2, List.length_append, List.length_append, List.length_singleton] at h4
              omega
            refine mz_WP.run 80 rfl ?_
            refine mz_WP.getf rfl (F' _ _ rfl) rfl (Nat.le_of_ble_eq_true rfl) ?_
            refine mz_WP.run 80 rfl ?_
            refine mz_WP.cv rfl rfl (Nat.le_of_ble_eq_true rfl) rfl (F' _ _ rfl) rfl (s_put (F' _ _ rfl) rfl (by decide) (by decide) ?_)
            rw [pl_u4, rput_in hl4 (by decide)]
            refine mz_WP.run 5 rfl ?_
            rw [nI_add, nI_add]
            have := k46 (S ++ [d]) (d + 7) (upd sr S.length (nI d)) (by omega) (by rw [hS2, show max (d + 1) (d + 7) = d + 7 by omega]) (fun s hs => by
              rcases List.mem_append.mp hs with z | z
              · have := h1 s z
                omega
              · have := List.mem_singleton.mp z
                omega) (Or.inr ⟨d, List.mem_append_right _ (List.mem_singleton.mpr rfl), rfl⟩) (fun j s hs => by
              by_cases hj : j < S.length
              · rw [List.getElem?_append_left hj] at hs
                rw [updN (by omega)]
                exact h3 j s hs
              · rw [List.getElem?_append_right (by omega)] at hs
                have hz : j - S.length < 1 := (List.getElem?_eq_some_iff.mp hs).1
                have hjc : j = S.length := by omega
                rw [show j - S.length = 0 by omega] at hs
                cases hs
                subst hjc
                rw [updS]) (fun j hj => by
              rw [h5 j hj]
              congr 1
              refine Bool.eq_iff_iff.mpr ⟨fun z => ?_, fun z => ?_⟩
              · obtain ⟨s, z1, z2⟩ := inS_iff.mp z
                exact inS_iff.mpr ⟨s, List.mem_append_left _ z1, z2⟩
              · obtain ⟨s, z1, z2, z3⟩ := inS_iff.mp z
                rcases List.mem_append.mp z1 with z4 | z4
                · exact inS_iff.mpr ⟨s, z4, z2, z3⟩
                · have := List.mem_singleton.mp z4
                  omega)
            rw [List.length_append, List.length_singleton] at this
            exact this
  exact loop 28 0 rfl [] 0 sr iw (by omega) (by rw [List.nil_append, Nat.max_self]) (fun s hs => by cases hs) (Or.inl rfl) (fun j s hs => by simp at hs) (fun j hj => by omega)
theorem dstep_t {o k : Int32} {a b : Dpv} (hc : k + b.1 < o + a.1 ∨ (k + b.1 = o + a.1 ∧ nI 1 + b.2.1 ≤ a.2.1)) : dstep o k true a b = (k + b.1, nI 1 + b.2.1, true) := if_pos ⟨rfl, hc⟩
theorem dstep_f {o k : Int32} {w : Bool} {a b : Dpv} (hc : ¬ (w = true ∧ (k + b.1 < o + a.1 ∨ (k + b.1 = o + a.1 ∧ nI 1 + b.2.1 ≤ a.2.1)))) : dstep o k w a b = (o + a.1, a.2.1, false) := if_neg hc
theorem PRep.cons {l : List Dpv} {d : Nat} {v : Dpv} (P : PRep l (d + 1) cf wf wb) (hd : d < 28) : PRep (v :: l) d (upd cf d v.1) (upd wf d v.2.1) (upd wb d (bI v.2.2)) := by
  intro j x hx
  cases j with
  | zero =>
    cases hx
    rw [Nat.add_zero, updS, updS, updS]
    exact ⟨rfl, rfl, fun _ => rfl⟩
  | succ j =>
    rw [List.getElem?_cons_succ] at hx
    have := P j x hx
    rw [show d + (j + 1) = d + 1 + j by omega, updN (by omega), updN (by omega), updN (by omega)]
    exact this
theorem s_pbuild (F : Fx h) (R : DyA h sm wd ow) (T : TrA h 32 zr fr cr wr mr ne) (H : ∀ cf wf wb sr iw : Nat → Int32, cf 0 = (dpv ow (wkc wr wd) 0).1 → wf 0 = (dpv ow (wkc wr wd) 0).2.1 → (∀ j s, (wkd (bgn ow (wkc wr wd)) 0)[j]? = some s → sr j = nI s) → (∀ d, d < 28 → iw d = bI (inS (wkd (bgn ow (wkc wr wd)) 0) d)) → Q none n (plH h cf wf wb sr iw)) : mz_wc (e + 3) 31 [.ref 175, .ref 168, .ref 32] n (plH h cf wf wb sr iw) Q := by
  have F' : ∀ {cf wf wb sr iw : Nat → Int32}, Fx (plH h cf wf wb sr iw) := pl_F F
  refine mz_wc.enter (code := co_X4_build) (idx := 31) rfl rfl (Nat.le_of_ble_eq_true rfl) rfl rfl ?_
  refine mz_WP.run 80 rfl ?_
  refine mz_WP.getf rfl (F' _ _ rfl) rfl (Nat.le_of_ble_eq_true rfl) ?_
  refine mz_WP.run 80 rfl ?_
  refine mz_WP.cv rfl rfl (Nat.le_of_ble_eq_true rfl) rfl (F' _ _ rfl) rfl (s_put (F' _ _ rfl) rfl (by decide) (by decide) ?_)
  rw [pl_u1, rput_in (by decide) (by decide)]
  refine mz_WP.run 80 rfl ?_
  refine mz_WP.getf rfl (F' _ _ rfl) rfl (Nat.le_of_ble_eq_true rfl) ?_
  refine mz_WP.run 80 rfl ?_
  refine mz_WP.cv rfl rfl (Nat.le_of_ble_eq_true rfl) rfl (F' _ _ rfl) rfl (s_put (F' _ _ rfl) rfl (by decide) (by decide) ?_)
  rw [pl_u2, rput_in (by decide) (by decide)]
  refine mz_WP.run 2 rfl ?_
  have fin : ∀ (x3 : Int32) (cf wf wb : Nat → Int32), PRep (dpl ow (wkc wr wd) 28) 0 cf wf wb → mz_WP (mz_wc (e + 2)) (e + 2) 0 co_X4_build Q 107 [some (.ref 175), some (.ref 168), some (.ref 32), some (.int x3)] [] n (plH h cf wf wb sr iw) 0 0 := by
    intro x3 cf wf wb P
    have at' : ∀ d, d ≤ 28 → (dpl ow (wkc wr wd) 28)[d]? = some (dpv ow (wkc wr wd) d) := by
      intro d hd
      have hlt : d < (dpl ow (wkc wr wd) 28).length := by rw [dpl_len]; omega
      rw [List.getElem?_eq_getElem hlt]
      have e1 := dpl_at ow (wkc wr wd) d (28 - d)
      rw [show 28 - d + d = 28 by omega, List.getD_eq_getElem?_getD, List.getElem?_eq_getElem hlt] at e1
      exact congrArg some e1
    refine mz_WP.run 80 rfl ?_
    refine mz_WP.cv rfl rfl (Nat.le_of_ble_eq_true rfl) rfl (F' _ _ rfl) rfl (s_mark (bg := bgn ow (wkc wr wd)) F (fun d hd => ?_) wkd_4 (fun sr iw hs hw => ?_))
    · have := (P d _ (at' d (by omega))).2.2 (by omega)
      rw [Nat.zero_add] at this
      rw [this]
      unfold bgn
      rw [if_pos hd]
    · have z := P 0 _ (at' 0 (by omega))
      exact mz_WP.vret rfl rfl (H cf wf wb sr iw z.1 z.2.1 hs hw)
  have loop : ∀ q r, r + q = 28 → ∀ cf wf wb : Nat → Int32, PRep (dpl ow (wkc wr wd) r) (28 - r) cf wf wb → mz_WP (mz_wc (e + 2)) (e + 2) 0 co_X4_build Q 23 [some (.ref 175), some (.ref 168), some (.ref 32), some (.int (nI q - nI 1))] [] n (plH h cf wf wb sr iw) 0 0 := by
    intro q
    induction q with
    | zero =>
      intro r hr cf wf wb P
      have hr : r = 28 := by omega
      subst hr
      refine mz_WP.run 80 rfl ?_
      refine mz_WP.ifc rfl (fun c => ?_) (fun c => ?_)
      · exact fin _ cf wf wb P
      · exact absurd (show nI 0 - nI 1 < 0 by decide) c
    | succ q ih =>
      intro r hr cf wf wb P
      obtain ⟨P0c, P0w⟩ := P.get (j := 0) (by rw [dpl_len]; omega)
      rw [Nat.add_zero, show 28 - r = q + 1 by omega] at P0c P0w
      rw [show nI (q + 1) - nI 1 = nI q from nI_pred q]
      have P' : PRep (dpl ow (wkc wr wd) r) (q + 1) cf wf wb := by rw [show q + 1 = 28 - r by omega]; exact P
      have hnew : dpl ow (wkc wr wd) (r + 1) = dstep (ow q) (wkc wr wd q) (decide (6 ≤ r)) ((dpl ow (wkc wr wd) r).getD 0 (0, 0, false)) ((dpl ow (wkc wr wd) r).getD 6 (0, 0, false)) :: dpl ow (wkc wr wd) r := by
        show dstep (ow (27 - r)) (wkc wr wd (27 - r)) _ _ _ :: _ = _
        rw [show 27 - r = q by omega]
      have next : ∀ cf wf wb : Nat → Int32, PRep (dpl ow (wkc wr wd) (r + 1)) q cf wf wb → mz_WP (mz_wc (e + 2)) (e + 2) 0 co_X4_build Q 101 [some (.ref 175), some (.ref 168), some (.ref 32), some (.int (nI q))] [] n (plH h cf wf wb sr iw) 0 0 := by
        intro cf wf wb P
        refine mz_WP.run 80 rfl ?_
        have := ih (r + 1) (by omega) cf wf wb (by rw [show 28 - (r + 1) = q by omega]; exact P)
        rw [show nI q + nI 4294967295 = nI q - nI 1 from by rw [Int32.sub_eq_add_neg]; rfl]
        exact this
      refine mz_WP.run 80 rfl ?_
      refine mz_WP.ifc rfl (fun c => ?_) (fun c => ?_)
      · exact absurd c (nI_pos (by omega))
      · refine mz_WP.run 80 rfl ?_
        refine mz_WP.getf rfl (F' _ _ rfl) rfl (Nat.le_of_ble_eq_true rfl) ?_
        refine mz_WP.run 80 rfl ?_
        refine mz_WP.cv rfl rfl (Nat.le_of_ble_eq_true rfl) rfl (F' _ _ rfl) rfl (r_dowed F' R.pl ?_)
        rw [rat_in (by omega) (by decide)]
        refine mz_WP.run 80 rfl ?_
        refine mz_WP.getf rfl (F' _ _ rfl) rfl (Nat.le_of_ble_eq_true rfl) ?_
        refine mz_WP.run 80 rfl ?_
        rw [nI_add]
        refine mz_WP.cv rfl rfl (Nat.le_of_ble_eq_true rfl) rfl (F' _ _ rfl) rfl (s_at (F' _ _ rfl) rfl (by decide) ?_)
        rw [rat_in (by omega) (by decide)]
        refine mz_WP.run 80 rfl ?_
        refine mz_WP.cv rfl rfl (Nat.le_of_ble_eq_true rfl) rfl (F' _ _ rfl) rfl (s_put (F' _ _ rfl) rfl (by decide) (by decide) ?_)
        rw [pl_u1, rput_in (by omega) (by decide)]
        refine mz_WP.run 80 rfl ?_
        refine mz_WP.getf rfl (F' _ _ rfl) rfl (Nat.le_of_ble_eq_true rfl) ?_
        refine mz_WP.run 80 rfl ?_
        refine mz_WP.getf rfl (F' _ _ rfl) rfl (Nat.le_of_ble_eq_true rfl) ?_
        refine mz_WP.run 80 rfl ?_
        rw [nI_add]
        refine mz_WP.cv rfl rfl (Nat.le_of_ble_eq_true rfl) rfl (F' _ _ rfl) rfl (s_at (F' _ _ rfl) rfl (by decide) ?_)
        rw [rat_in (by omega) (by decide)]
        refine mz_WP.cv rfl rfl (Nat.le_of_ble_eq_true rfl) rfl (F' _ _ rfl) rfl (s_put (F' _ _ rfl) rfl (by decide) (by decide) ?_)
        rw [pl_u2, rput_in (by omega) (by decide)]
        refine mz_WP.run 80 rfl ?_
        refine mz_WP.getf rfl (F' _ _ rfl) rfl (Nat.le_of_ble_eq_true rfl) ?_
        refine mz_WP.run 80 rfl ?_
        refine mz_WP.cv rfl rfl (Nat.le_of_ble_eq_true rfl) rfl (F' _ _ rfl) rfl (s_put (F' _ _ rfl) rfl (by decide) (by decide) ?_)
        rw [pl_u3, rput_in (by omega) (by decide)]
        refine mz_WP.run 80 rfl ?_
        rw [nI_add]
        refine mz_WP.icmp rfl (fun c1 => ?_) (fun c1 => ?_)
        · have hq : 28 < q + 7 := (nI_ltI (by omega) (by omega)).mp c1
          refine next _ _ _ ?_
          rw [hnew, dstep_f (fun z => absurd (of_decide_eq_true z.1) (by omega)), P0c, P0w]
          exact P'.cons (v := (ow q + ((dpl ow (wkc wr wd) r).getD 0 (0, 0, false)).1, ((dpl ow (wkc wr wd) r).getD 0 (0, 0, false)).2.1, false)) (by omega)
        · have hq : q + 7 ≤ 28 := by
            rcases Nat.lt_or_ge 28 (q + 7) with z | z
            · exact absurd (nI_lt z (by omega)) c1
            · exact z
          obtain ⟨P6c, P6w⟩ := P'.get (j := 6) (by rw [dpl_len]; omega)
          rw [show q + 1 + 6 = q + 7 by omega] at P6c P6w
          refine mz_WP.run 80 rfl ?_
          refine mz_WP.cv rfl rfl (Nat.le_of_ble_eq_true rfl) rfl (F' _ _ rfl) rfl (r_dweek F' R.pl hq ?_)
          refine mz_WP.cv rfl rfl (Nat.le_of_ble_eq_true rfl) rfl (T.pl.1) rfl (s_weekCost T.pl ?_)
          refine mz_WP.cv rfl rfl (Nat.le_of_ble_eq_true rfl) rfl (F' _ _ rfl) rfl (s_weigh (x := wkc wr wd q) F hq (fun hc => ?_) (fun hc => ?_))
          · rw [updS, updS, updN (by omega), updN (by omega)] at hc
            refine next _ _ _ ?_
            rw [P6c, P6w, P0c, P0w] at hc
            rw [hnew, decide_eq_true (show 6 ≤ r by omega), dstep_t hc, updU, updU, updU, updN (show q + 7 ≠ q by omega), updN (show q + 7 ≠ q by omega), P6c, P6w]
            exact P'.cons (v := (wkc wr wd q + ((dpl ow (wkc wr wd) r).getD 6 (0, 0, false)).1, nI 1 + ((dpl ow (wkc wr wd) r).getD 6 (0, 0, false)).2.1, true)) (by omega)
          · rw [updS, updS, updN (by omega), updN (by omega)] at hc
            refine next _ _ _ ?_
            rw [P6c, P6w, P0c, P0w] at hc
            rw [hnew, dstep_f (fun z => hc z.2), P0c, P0w]
            exact P'.cons (v := (ow q + ((dpl ow (wkc wr wd) r).getD 0 (0, 0, false)).1, ((dpl ow (wkc wr wd) r).getD 0 (0, 0, false)).2.1, false)) (by omega)
  have := loop 28 0 rfl (upd cf 28 (nI 0)) (upd wf 28 (nI 0)) wb (by
    intro j v hv
    cases j with
    | zero =>
      cases hv
      show upd cf 28 (nI 0) 28 = _ ∧ upd wf 28 (nI 0) 28 = _ ∧ _
      rw [updS, updS]
      exact ⟨rfl, rfl, fun z => absurd z (by decide)⟩
    | succ j => simp [dpl] at hv)
  exact this
end PB
