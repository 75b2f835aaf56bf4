/-! the reference: days laid -/
section MDl
variable {e n : Nat} {h : mz_H} {Q : mz_Q} {g : Nat → Int32} {r j : Int32}
theorem MJ.wid {l : List Rde} (M : MJ h g l) : widP (gJ g l) := by
  obtain ⟨kd, st, sp, bg, en, lm, jo, fi, le, wi, co, -, -, -, -, -, -, hq⟩ := M
  intro q hm
  obtain ⟨i, hi⟩ := List.getElem?_of_mem hm
  obtain ⟨f, w, -, -, -, -, w1, w2, w3, -, -⟩ := hq i q hi
  exact ⟨w, w1, w2, w3⟩
theorem MJ.to {h' : mz_H} {l : List Rde} (M : MJ h g l) (hh : ∀ b, 186 ≤ b → b ≤ 200 → b ≠ 187 → h' b = h b) : MJ h' g l := by
  obtain ⟨kd, st, sp, bg, en, lm, jo, fi, le, wi, co, e0, R, J, x⟩ := M
  exact ⟨kd, st, sp, bg, en, lm, jo, fi, le, wi, co, (hh _ (by omega) (by omega) (by omega)).trans e0, R.to (fun b _ _ => hh b (by omega) (by omega) (by omega)), J.to (fun b _ _ => hh b (by omega) (by omega) (by omega)), x⟩
theorem gJ_day {c k : Nat} (Wc : WFc g c k) : ∀ (i : Nat) (q : Jrn), (gJ g (gL g c k))[i]? = some q → dayP q.1 := by
  have hm : ∀ x, x < k → dayP (gm g c x) := fun x hx => by
    obtain ⟨y, y1, y2⟩ := Wc.2.2.1 x hx
    rw [y2]
    exact dayP_of y1
  exact jl_mom dayP (fun i r hr => (rl_mom hm k (Nat.le_refl k) i r hr).1) _
theorem r_layDays {c k : Nat} (W : WF g) (Wc : WFc g c k) (hc : c < 4) (ho : h 186 = mo r j) (hg : h 187 = .inl (0, 423, g)) (S1 : mrS h) (S2 : mjS h) (S3 : mdS h) (H : ∀ h', MD h' g (gL g c k) → (∀ b, b ≠ 186 → (b < 190 ∨ 206 < b) → h' b = h b) → Q none n h') : mz_wc (e + 4) 145 [.ref 186, .int (nI c)] n h Q := by
  refine mz_wc.enter (code := co_X11_layDays) (idx := 145) rfl rfl (Nat.le_of_ble_eq_true rfl) rfl rfl ?_
  refine mz_WP.run 80 rfl ?_
  refine mz_WP.cv rfl rfl (Nat.le_of_ble_eq_true rfl) rfl (ho) rfl (m_layJ W Wc hc ho hg S1 S2 (fun h1 M o1 => ?_))
  have hday := gJ_day Wc
  have hl : (gL g c k).length ≤ 48 := Nat.le_trans (rl_len k _ _ _ k) Wc.1
  generalize hgl : gL g c k = l at *
  have hJ48 : (gJ g l).length ≤ 48 := Nat.le_trans (jl_len _ _ l l.length) hl
  have hwP := M.wid
  have hg1 : h1 187 = .inl (0, 423, g) := (o1 187 (by omega) (by omega)).trans hg
  obtain ⟨su, wd, ow, la, wk, iw, e1, e2, e3, e4, e5, e6⟩ := S3
  have E := md_id (h0 := h1) ((o1 201 (by omega) (by omega)).trans e1) ((o1 202 (by omega) (by omega)).trans e2) ((o1 203 (by omega) (by omega)).trans e3) ((o1 204 (by omega) (by omega)).trans e4) ((o1 205 (by omega) (by omega)).trans e5) ((o1 206 (by omega) (by omega)).trans e6)
  obtain ⟨kd, st, sp, bg, en, lm, jo, fi, le, wi, co, ho1, R1, J1, RA, LM, hjo, hq⟩ := id M
  have lo : ∀ {su wd ow la wk iw}, mdH h1 su wd ow la wk iw 186 = mo (nI l.length) (nI (gJ g l).length) := fun {su wd ow la wk iw} => (md_lt (by omega)).trans ho1
  have lg : ∀ {su wd ow la wk iw}, mdH h1 su wd ow la wk iw 187 = .inl (0, 423, g) := fun {su wd ow la wk iw} => (md_lt (by omega)).trans hg1
  have lb : ∀ {su wd ow la wk iw}, mdH h1 su wd ow la wk iw 193 = .inl (0, 48, bg) := fun {su wd ow la wk iw} => (md_lt (by omega)).trans R1.2.2.2.1
  have lf : ∀ {su wd ow la wk iw}, mdH h1 su wd ow la wk iw 197 = .inl (0, 48, fi) := fun {su wd ow la wk iw} => (md_lt (by omega)).trans J1.2.1
  have lw : ∀ {su wd ow la wk iw}, mdH h1 su wd ow la wk iw 199 = .inl (0, 48, wi) := fun {su wd ow la wk iw} => (md_lt (by omega)).trans J1.2.2.2.1
  have lc : ∀ {su wd ow la wk iw}, mdH h1 su wd ow la wk iw 200 = .inl (0, 48, co) := fun {su wd ow la wk iw} => (md_lt (by omega)).trans J1.2.2.2.2
  -- the plans
  have plans : ∀ (x2 x3 x4 : Option Value) (su wd ow la wk iw : Nat → Int32), (∀ d, d < 28 → su d = dsm (frG g) (g 411) (gJ g l) d ∧ wd d = dwd (gJ g l) d ∧ ow d = gO g (gJ g l) d) → mz_WP (mz_wc (e + 3)) (e + 3) 0 co_X11_layDays Q 187 [some (.ref 186), some (.int (nI c)), x2, x3, x4] [] n (mdH h1 su wd ow la wk iw) 0 0 := by
    intro x2 x3 x4 su wd ow la wk iw hs
    have hP : ∀ j, j < 28 → ∃ w, w ≤ 5 ∧ wd j = nI w := fun j hj => by
      rw [(hs j hj).2.1]
      rcases dd_P (fr := frG g) (mr := g 411) (d := j) hwP with ⟨-, h⟩ | ⟨w, -, w2, h⟩
      · exact ⟨0, by omega, by rw [h, nI_0]⟩
      · exact ⟨w, w2, h⟩
    have hO : ∀ d, d < 28 → ow d = gO g (gJ g l) d := fun d hd => (hs d hd).2.2
    have hK : ∀ d, d ≤ 21 → wkc (wrG g) wd d = gK g (gJ g l) d := fun d hd => by
      show wkc (wrG g) wd d = wkc (wrG g) (dwd (gJ g l)) d
      unfold wkc
      rw [wmx_c 7 d 0 (fun j h1 h2 => (hs j (by omega)).2.1)]
    refine mz_WP.run 80 rfl ?_
    refine mz_WP.getf rfl (lo) rfl (Nat.le_of_ble_eq_true rfl) ?_
    refine mz_WP.run 80 rfl ?_
    refine mz_WP.asN (k := 28) rfl rfl (by omega) rfl (by omega) (by decide) ?_
    rw [md_u4]
    refine mz_WP.run 80 rfl ?_
    refine mz_WP.getf rfl (lo) rfl (Nat.le_of_ble_eq_true rfl) ?_
    refine mz_WP.run 80 rfl ?_
    refine mz_WP.asN (k := 28) rfl rfl (by omega) rfl (by omega) (by decide) ?_
    rw [md_u5]
    refine mz_WP.run 2 rfl ?_
    have fin : ∀ (x2 x3 x4 : Option Value) (la wk iw : Nat → Int32), PRep (dpl ow (wkc (wrG g) wd) 28) 0 la wk iw → mz_WP (mz_wc (e + 3)) (e + 3) 0 co_X11_layDays Q 346 [some (.ref 186), some (.int (nI c)), x2, x3, x4] [] n (mdH h1 su wd ow la wk iw) 0 0 := by
      intro x2 x3 x4 la wk iw P
      have at' : ∀ d, d ≤ 28 → (dpl ow (wkc (wrG g) wd) 28)[d]? = some (dpv ow (wkc (wrG g) wd) d) := by
        intro d hd
        have hlt : d < (dpl ow (wkc (wrG g) wd) 28).length := by rw [dpl_len]; omega
        rw [List.getElem?_eq_getElem hlt]
        have e1 := dpl_at ow (wkc (wrG g) wd) d (28 - d)
        rw [show 28 - d + d = 28 by omega, List.getD_eq_getElem?_getD, List.getElem?_eq_getElem hlt] at e1
        exact congrArg some e1
      have z := P 0 _ (at' 0 (by omega))
      refine mz_WP.vret rfl rfl (H _ ⟨M.to (fun b _ _ _ => md_lt (by omega)), su, wd, ow, la, wk, iw, ⟨rfl, rfl, rfl, rfl, rfl, rfl⟩, hs, ?_, ?_, fun d hd => ?_⟩ (fun b b1 b2 => (md_lt (by omega)).trans (o1 b b1 (by omega))))
      · rw [← dpv_c hO hK 0]
        exact z.1
      · rw [← dpv_c hO hK 0]
        exact z.2.1
      · have := (P d _ (at' d (by omega))).2.2 (by omega)
        rw [Nat.zero_add] at this
        rw [this, ← bgn_c hO hK]
        unfold bgn
        rw [if_pos hd]
    have loop : ∀ q r, r + q = 28 → ∀ (x3 x4 : Option Value) (la wk iw : Nat → Int32), PRep (dpl ow (wkc (wrG g) wd) r) (28 - r) la wk iw → mz_WP (mz_wc (e + 3)) (e + 3) 0 co_X11_layDays Q 206 [some (.ref 186), some (.int (nI c)), some (.int (nI q - nI 1)), x3, x4] [] n (mdH h1 su wd ow la wk iw) 0 0 := by
      intro q
      induction q with
      | zero =>
        intro r hr x3 x4 la wk iw P
        have hr : r = 28 := by omega
        subst hr
        refine mz_WP.run 80 rfl ?_
        refine mz_WP.ifc rfl (fun cn => ?_) (fun cn => ?_)
        · exact fin _ _ _ la wk iw P
        · exact absurd (show nI 0 - nI 1 < 0 by decide) cn
      | succ q ih =>
        intro r hr x3 x4 la wk iw P
        obtain ⟨P0c, P0w⟩ := P.get (j := 0) (by rw [dpl_len]; omega)
        rw [Nat.add_zero, show 28 - r = q + 1 by omega] at P0c P0w
        rw [show nI (q + 1) - nI 1 = nI q from nI_pred q]
        have P' : PRep (dpl ow (wkc (wrG g) wd) r) (q + 1) la wk iw := by rw [show q + 1 = 28 - r by omega]; exact P
        have hnew : dpl ow (wkc (wrG g) wd) (r + 1) = dstep (ow q) (wkc (wrG g) wd q) (decide (6 ≤ r)) ((dpl ow (wkc (wrG g) wd) r).getD 0 (0, 0, false)) ((dpl ow (wkc (wrG g) wd) r).getD 6 (0, 0, false)) :: dpl ow (wkc (wrG g) wd) r := by
          show dstep (ow (27 - r)) (wkc (wrG g) wd (27 - r)) _ _ _ :: _ = _
          rw [show 27 - r = q by omega]
        have next : ∀ (x3 x4 : Option Value) (la wk iw : Nat → Int32), PRep (dpl ow (wkc (wrG g) wd) (r + 1)) q la wk iw → mz_WP (mz_wc (e + 3)) (e + 3) 0 co_X11_layDays Q 340 [some (.ref 186), some (.int (nI c)), some (.int (nI q)), x3, x4] [] n (mdH h1 su wd ow la wk iw) 0 0 := by
          intro x3 x4 la wk iw P
          refine mz_WP.run 80 rfl ?_
          have := ih (r + 1) (by omega) x3 x4 la wk iw (by rw [show 28 - (r + 1) = q by omega]; exact P)
          rw [show nI q + nI 4294967295 = nI q - nI 1 from by rw [Int32.sub_eq_add_neg]; rfl]
          exact this
        refine mz_WP.run 80 rfl ?_
        refine mz_WP.ifc rfl (fun cn => ?_) (fun cn => ?_)
        · exact absurd cn (nI_pos (by omega))
        refine mz_WP.run 80 rfl ?_
        refine mz_WP.getf rfl (lo) rfl (Nat.le_of_ble_eq_true rfl) ?_
        refine mz_WP.run 80 rfl ?_
        refine mz_WP.getf rfl (lo) rfl (Nat.le_of_ble_eq_true rfl) ?_
        refine mz_WP.run 80 rfl ?_
        refine mz_WP.alN rfl rfl rfl (by omega) (by decide) ?_
        refine mz_WP.run 80 rfl ?_
        refine mz_WP.getf rfl (lo) rfl (Nat.le_of_ble_eq_true rfl) ?_
        refine mz_WP.run 80 rfl ?_
        refine mz_WP.alN rfl rfl (nI_add _ _) (by omega) (by decide) ?_
        refine mz_WP.run 80 rfl ?_
        refine mz_WP.asN rfl rfl (by omega) rfl (by omega) (by decide) ?_
        rw [md_u4]
        refine mz_WP.run 80 rfl ?_
        refine mz_WP.getf rfl (lo) rfl (Nat.le_of_ble_eq_true rfl) ?_
        refine mz_WP.run 80 rfl ?_
        refine mz_WP.getf rfl (lo) rfl (Nat.le_of_ble_eq_true rfl) ?_
        refine mz_WP.run 80 rfl ?_
        refine mz_WP.alN rfl rfl (nI_add _ _) (by omega) (by decide) ?_
        refine mz_WP.asN rfl rfl (by omega) rfl (by omega) (by decide) ?_
        rw [md_u5]
        refine mz_WP.run 80 rfl ?_
        refine mz_WP.getf rfl (lo) rfl (Nat.le_of_ble_eq_true rfl) ?_
        refine mz_WP.run 80 rfl ?_
        refine mz_WP.bsN false rfl rfl (by omega) rfl (by omega) (by decide) nI_0 ?_
        rw [md_u6]
        have keep : ∀ (x3 x4 : Option Value), dpl ow (wkc (wrG g) wd) (r + 1) = (ow q + ((dpl ow (wkc (wrG g) wd) r).getD 0 (0, 0, false)).1, ((dpl ow (wkc (wrG g) wd) r).getD 0 (0, 0, false)).2.1, false) :: dpl ow (wkc (wrG g) wd) r → mz_WP (mz_wc (e + 3)) (e + 3) 0 co_X11_layDays Q 340 [some (.ref 186), some (.int (nI c)), some (.int (nI q)), x3, x4] [] n (mdH h1 su wd ow (upd la q (ow q + la (q + 1))) (upd wk q (wk (q + 1))) (upd iw q (bI false))) 0 0 := by
          intro x3 x4 hz
          refine next x3 x4 _ _ _ ?_
          rw [hz, P0c, P0w]
          exact P'.cons (v := (ow q + ((dpl ow (wkc (wrG g) wd) r).getD 0 (0, 0, false)).1, ((dpl ow (wkc (wrG g) wd) r).getD 0 (0, 0, false)).2.1, false)) (by omega)
        refine mz_WP.run 80 rfl ?_
        refine mz_WP.icmp rfl (fun c1 => ?_) (fun c1 => ?_)
        · have hq : 21 < q := (nI_ltI (by omega) (by omega)).mp c1
          exact keep _ _ (by rw [hnew, dstep_f (fun z => absurd (of_decide_eq_true z.1) (by omega))])
        have hq : q ≤ 21 := by
          rcases Nat.lt_or_ge 21 q with z | z
          · exact absurd (nI_lt z (by omega)) c1
          · exact z
        obtain ⟨P6c, P6w⟩ := P'.get (j := 6) (by rw [dpl_len]; omega)
        rw [show q + 1 + 6 = q + 7 by omega] at P6c P6w
        refine mz_WP.run 80 rfl ?_
        refine mz_WP.cv rfl rfl (Nat.le_of_ble_eq_true rfl) rfl (lo) rfl (m_weekAt lo lg rfl hq hP ?_)
        refine mz_WP.run 80 rfl ?_
        refine mz_WP.getf rfl (lo) rfl (Nat.le_of_ble_eq_true rfl) ?_
        refine mz_WP.run 80 rfl ?_
        refine mz_WP.alN rfl rfl (nI_add _ _) (by omega) (by decide) ?_
        rw [updN (show q + 7 ≠ q by omega)]
        refine mz_WP.run 80 rfl ?_
        refine mz_WP.getf rfl (lo) rfl (Nat.le_of_ble_eq_true rfl) ?_
        refine mz_WP.run 80 rfl ?_
        refine mz_WP.alN rfl rfl (nI_add _ _) (by omega) (by decide) ?_
        rw [updN (show q + 7 ≠ q by omega)]
        refine mz_WP.run 80 rfl ?_
        refine mz_WP.getf rfl (lo) rfl (Nat.le_of_ble_eq_true rfl) ?_
        refine mz_WP.run 80 rfl ?_
        refine mz_WP.alN rfl rfl rfl (by omega) (by decide) ?_
        rw [updS]
        have take : (wkc (wrG g) wd q + la (q + 7) < ow q + la (q + 1) ∨ (wkc (wrG g) wd q + la (q + 7) = ow q + la (q + 1) ∧ nI 1 + wk (q + 7) ≤ wk (q + 1))) → mz_WP (mz_wc (e + 3)) (e + 3) 0 co_X11_layDays Q 318 [some (.ref 186), some (.int (nI c)), some (.int (nI q)), some (.int (wkc (wrG g) wd q + la (q + 7))), some (.int (nI 1 + wk (q + 7)))] [] n (mdH h1 su wd ow (upd la q (ow q + la (q + 1))) (upd wk q (wk (q + 1))) (upd iw q (bI false))) 0 0 := by
          intro hc
          refine mz_WP.run 80 rfl ?_
          refine mz_WP.getf rfl (lo) rfl (Nat.le_of_ble_eq_true rfl) ?_
          refine mz_WP.run 80 rfl ?_
          refine mz_WP.asN rfl rfl (by omega) rfl (by omega) (by decide) ?_
          rw [md_u4, updU]
          refine mz_WP.run 80 rfl ?_
          refine mz_WP.getf rfl (lo) rfl (Nat.le_of_ble_eq_true rfl) ?_
          refine mz_WP.run 80 rfl ?_
          refine mz_WP.asN rfl rfl (by omega) rfl (by omega) (by decide) ?_
          rw [md_u5, updU]
          refine mz_WP.run 80 rfl ?_
          refine mz_WP.getf rfl (lo) rfl (Nat.le_of_ble_eq_true rfl) ?_
          refine mz_WP.run 80 rfl ?_
          refine mz_WP.bsN true rfl rfl (by omega) rfl (by omega) (by decide) nI1 ?_
          rw [md_u6, updU]
          refine next _ _ _ _ _ ?_
          rw [P6c, P6w, P0c, P0w] at hc
          rw [hnew, decide_eq_true (show 6 ≤ r by omega), dstep_t hc, P6c, P6w]
          exact P'.cons (v := (wkc (wrG g) wd q + ((dpl ow (wkc (wrG g) wd) r).getD 6 (0, 0, false)).1, nI 1 + ((dpl ow (wkc (wrG g) wd) r).getD 6 (0, 0, false)).2.1, true)) (by omega)
        have leave : ¬ (wkc (wrG g) wd q + la (q + 7) < ow q + la (q + 1) ∨ (wkc (wrG g) wd q + la (q + 7) = ow q + la (q + 1) ∧ nI 1 + wk (q + 7) ≤ wk (q + 1))) → mz_WP (mz_wc (e + 3)) (e + 3) 0 co_X11_layDays Q 340 [some (.ref 186), some (.int (nI c)), some (.int (nI q)), some (.int (wkc (wrG g) wd q + la (q + 7))), some (.int (nI 1 + wk (q + 7)))] [] n (mdH h1 su wd ow (upd la q (ow q + la (q + 1))) (upd wk q (wk (q + 1))) (upd iw q (bI false))) 0 0 := by
          intro hc
          rw [P6c, P6w, P0c, P0w] at hc
          have := keep (some (.int (wkc (wrG g) wd q + la (q + 7)))) (some (.int (nI 1 + wk (q + 7)))) (by rw [hnew, dstep_f (fun z => hc z.2)])
          exact this
        refine mz_WP.icmp rfl (fun c2 => ?_) (fun c2 => ?_)
        · exact take (Or.inl c2)
        have c2 : ¬ wkc (wrG g) wd q + la (q + 7) < ow q + la (q + 1) := c2
        refine mz_WP.run 80 rfl ?_
        refine mz_WP.getf rfl (lo) rfl (Nat.le_of_ble_eq_true rfl) ?_
        refine mz_WP.run 80 rfl ?_
        refine mz_WP.alN rfl rfl rfl (by omega) (by decide) ?_
        rw [updS]
        refine mz_WP.icmp rfl (fun c3 => ?_) (fun c3 => ?_)
        · have c3 : ¬ wkc (wrG g) wd q + la (q + 7) = ow q + la (q + 1) := c3
          exact leave (fun z => Or.elim z c2 (fun z => c3 z.1))
        have c3 : wkc (wrG g) wd q + la (q + 7) = ow q + la (q + 1) := Classical.byContradiction c3
        refine mz_WP.run 80 rfl ?_
        refine mz_WP.getf rfl (lo) rfl (Nat.le_of_ble_eq_true rfl) ?_
        refine mz_WP.run 80 rfl ?_
        refine mz_WP.alN rfl rfl rfl (by omega) (by decide) ?_
        rw [updS]
        refine mz_WP.icmp rfl (fun c4 => ?_) (fun c4 => ?_)
        · have c4 : ¬ nI 1 + wk (q + 7) ≤ wk (q + 1) := Int32.not_le.mpr c4
          exact leave (fun z => Or.elim z c2 (fun z => c4 z.2))
        · have c4 : nI 1 + wk (q + 7) ≤ wk (q + 1) := Int32.not_lt.mp c4
          exact take (Or.inr ⟨c3, c4⟩)
    have := loop 28 0 rfl x3 x4 (upd la 28 (nI 0)) (upd wk 28 (nI 0)) iw (by
      intro j v hv
      cases j with
      | zero =>
        cases hv
        show upd la 28 (nI 0) 28 = _ ∧ upd wk 28 (nI 0) 28 = _ ∧ _
        rw [updS, updS]
        exact ⟨nI_0, nI_0, fun z => absurd z (by decide)⟩
      | succ j => simp [dpl] at hv)
    exact this
  -- what the days owe
  have owes : ∀ q i (x3 x4 : Option Value) (su wd ow la wk iw : Nat → Int32), i + q = 28 → (∀ d, d < 28 → su d = dsm (frG g) (g 411) (gJ g l) d ∧ wd d = dwd (gJ g l) d) → (∀ d, d < i → ow d = gO g (gJ g l) d) → mz_WP (mz_wc (e + 3)) (e + 3) 0 co_X11_layDays Q 118 [some (.ref 186), some (.int (nI c)), some (.int (nI i)), x3, x4] [] n (mdH h1 su wd ow la wk iw) 0 0 := by
    intro q
    induction q with
    | zero =>
      intro i x3 x4 su wd ow la wk iw hi hs hw
      have hi : i = 28 := by omega
      subst hi
      refine mz_WP.run 80 rfl ?_
      refine mz_WP.icmp rfl (fun cc => ?_) (fun cc => ?_)
      · exact plans _ _ _ su wd ow la wk iw (fun d hd => ⟨(hs d hd).1, (hs d hd).2, hw d hd⟩)
      · exact absurd (nI_le (Nat.le_refl _) (by decide)) cc
    | succ q ih =>
      intro i x3 x4 su wd ow la wk iw hi hs hw
      refine mz_WP.run 80 rfl ?_
      refine mz_WP.icmp rfl (fun cc => ?_) (fun cc => ?_)
      · exact absurd cc (nI_ge (by omega) (by decide))
      obtain ⟨s1, s2⟩ := hs i (by omega)
      have dP := dd_P (fr := frG g) (mr := g 411) (d := i) hwP
      rw [← s1, ← s2] at dP
      have hOi : gO g (gJ g l) i = dow (crG g) (su i) (wd i) := by
        rw [s1, s2]
        rfl
      have st : ∀ cap : Int32, (if cap < su i then cap else su i) = gO g (gJ g l) i → mz_WP (mz_wc (e + 3)) (e + 3) 0 co_X11_layDays Q 155 [some (.ref 186), some (.int (nI c)), some (.int (nI i)), some (.int cap), x4] [] n (mdH h1 su wd ow la wk iw) 0 0 := by
        intro cap hcap
        have nx := ih (i + 1) (some (.int cap)) x4 su wd (upd ow i (gO g (gJ g l) i)) la wk iw (by omega) hs (fun d hd => by
          by_cases hdi : d = i
          · subst hdi
            rw [updS]
          · rw [updN hdi]
            exact hw d (by omega))
        rw [nI_succ i] at nx
        refine mz_WP.run 80 rfl ?_
        refine mz_WP.getf rfl (lo) rfl (Nat.le_of_ble_eq_true rfl) ?_
        refine mz_WP.run 80 rfl ?_
        refine mz_WP.getf rfl (lo) rfl (Nat.le_of_ble_eq_true rfl) ?_
        refine mz_WP.run 80 rfl ?_
        refine mz_WP.alN rfl rfl rfl (by omega) (by decide) ?_
        refine mz_WP.icmp rfl (fun c1 => ?_) (fun c1 => ?_)
        · rw [if_neg (Int32.not_lt.mpr c1)] at hcap
          refine mz_WP.run 80 rfl ?_
          refine mz_WP.getf rfl (lo) rfl (Nat.le_of_ble_eq_true rfl) ?_
          refine mz_WP.run 80 rfl ?_
          refine mz_WP.alN rfl rfl rfl (by omega) (by decide) ?_
          refine mz_WP.asN rfl rfl (by omega) rfl (by omega) (by decide) ?_
          rw [md_u3, hcap]
          refine mz_WP.run 80 rfl ?_
          exact nx
        · rw [if_pos (Int32.not_le.mp c1)] at hcap
          rw [← hcap] at nx
          refine mz_WP.run 80 rfl ?_
          refine mz_WP.run 80 rfl ?_
          refine mz_WP.asN rfl rfl (by omega) rfl (by omega) (by decide) ?_
          rw [md_u3]
          refine mz_WP.run 80 rfl ?_
          exact nx
      refine mz_WP.run 80 rfl ?_
      refine mz_WP.getf rfl (lo) rfl (Nat.le_of_ble_eq_true rfl) ?_
      refine mz_WP.run 80 rfl ?_
      refine mz_WP.alN rfl rfl rfl (by omega) (by decide) ?_
      refine mz_WP.ifc rfl (fun c0 => ?_) (fun c0 => ?_)
      · have c0 : ¬ wd i = 0 := c0
        rcases dP with ⟨-, z⟩ | ⟨w, w1, w2, w3⟩
        · exact absurd z c0
        · refine mz_WP.run 80 rfl ?_
          refine mz_WP.getf rfl (lo) rfl (Nat.le_of_ble_eq_true rfl) ?_
          refine mz_WP.run 80 rfl ?_
          refine mz_WP.getf rfl (lo) rfl (Nat.le_of_ble_eq_true rfl) ?_
          refine mz_WP.run 80 rfl ?_
          refine mz_WP.alN rfl rfl rfl (by omega) (by decide) ?_
          rw [w3]
          refine mz_WP.run 80 rfl ?_
          refine mz_WP.alN (k := 400 + w) rfl lg (by rw [nI_add, pk_sub (by omega)]; congr 1; omega) (by omega) (by decide) ?_
          refine mz_WP.run 1 rfl ?_
          refine st _ ?_
          rw [hOi]
          unfold dow
          rw [if_neg c0, w3, rat_in (by omega) (by decide), show crG g w = g (400 + w) from if_neg (by omega)]
      · have c0 : wd i = 0 := Classical.byContradiction c0
        rcases dP with ⟨z1, z2⟩ | ⟨w, w1, w2, w3⟩
        · refine mz_WP.run 2 rfl ?_
          refine mz_WP.run 1 rfl ?_
          refine st _ ?_
          rw [hOi]
          unfold dow
          rw [if_pos c0, z1, nI_0]
          decide
        · rw [w3] at c0
          exact absurd c0 (nI_ne0 (by omega) (by omega))
  -- sums and widths
  have sums : ∀ q i (x3 x4 : Option Value) (su wd ow la wk iw : Nat → Int32), i + q = (gJ g l).length → (∀ d, d < 28 → su d = dsm (frG g) (g 411) ((gJ g l).take i) d ∧ wd d = dwd ((gJ g l).take i) d) → mz_WP (mz_wc (e + 3)) (e + 3) 0 co_X11_layDays Q 35 [some (.ref 186), some (.int (nI c)), some (.int (nI i)), x3, x4] [] n (mdH h1 su wd ow la wk iw) 0 0 := by
    intro q
    induction q with
    | zero =>
      intro i x3 x4 su wd ow la wk iw hi hs
      have hi : i = (gJ g l).length := by omega
      subst hi
      rw [List.take_length] at hs
      refine mz_WP.run 80 rfl ?_
      refine mz_WP.getf rfl (lo) rfl (Nat.le_of_ble_eq_true rfl) ?_
      refine mz_WP.icmp rfl (fun cc => ?_) (fun cc => ?_)
      · refine mz_WP.run 2 rfl ?_
        exact owes 28 0 _ _ su wd ow la wk iw rfl hs (fun d hd => by omega)
      · exact absurd (nI_le (Nat.le_refl _) (by omega)) cc
    | succ q ih =>
      intro i x3 x4 su wd ow la wk iw hi hs
      obtain ⟨p, hp⟩ := geti (show i < (gJ g l).length by omega)
      obtain ⟨f, w, f1, f2, f3, f4, w1, w2, w3, w4, w5⟩ := hq i p hp
      obtain ⟨d, hd28, hd⟩ := hday i p hp
      refine mz_WP.run 80 rfl ?_
      refine mz_WP.getf rfl (lo) rfl (Nat.le_of_ble_eq_true rfl) ?_
      refine mz_WP.icmp rfl (fun cc => ?_) (fun cc => ?_)
      · exact absurd cc (nI_ge (by omega) (by omega))
      refine mz_WP.run 80 rfl ?_
      refine mz_WP.getf rfl (lo) rfl (Nat.le_of_ble_eq_true rfl) ?_
      refine mz_WP.run 80 rfl ?_
      refine mz_WP.getf rfl (lo) rfl (Nat.le_of_ble_eq_true rfl) ?_
      refine mz_WP.run 80 rfl ?_
      refine mz_WP.alN rfl lf rfl (by omega) (by decide) ?_
      rw [f2]
      refine mz_WP.alN rfl lb rfl (by omega) (by decide) ?_
      rw [f3]
      refine mz_WP.run 80 rfl ?_
      refine mz_WP.div rfl (by decide) ?_
      rw [hd]
      refine mz_WP.run 80 rfl ?_
      refine mz_WP.getf rfl (lo) rfl (Nat.le_of_ble_eq_true rfl) ?_
      refine mz_WP.run 80 rfl ?_
      refine mz_WP.alN rfl rfl rfl (by omega) (by decide) ?_
      refine mz_WP.run 80 rfl ?_
      refine mz_WP.getf rfl (lo) rfl (Nat.le_of_ble_eq_true rfl) ?_
      refine mz_WP.run 80 rfl ?_
      refine mz_WP.alN rfl lc rfl (by omega) (by decide) ?_
      rw [w5]
      refine mz_WP.run 80 rfl ?_
      refine mz_WP.asN rfl rfl (by omega) rfl (by omega) (by decide) ?_
      rw [md_u1]
      have nx := ih (i + 1) (some (.int (nI d))) x4 (upd su d (su d + jcost (frG g) (g 411) p)) (upd wd d (zmax (wd d) (jwid p))) ow la wk iw (by omega) (fun d2 hd2 => by
        rw [tk hp, dsm_app, dwd_app, hd]
        by_cases hdd : d2 = d
        · subst hdd
          rw [updS, updS, if_pos rfl, if_pos rfl, (hs d2 hd2).1, (hs d2 hd2).2]
          exact ⟨rfl, rfl⟩
        · have hne : ¬ nI d = nI d2 := fun z => hdd ((nI_eq (by omega) (by omega)).mp z).symm
          rw [updN hdd, updN hdd, if_neg hne, if_neg hne]
          exact hs d2 hd2)
      rw [nI_succ i, w3] at nx
      refine mz_WP.run 80 rfl ?_
      refine mz_WP.getf rfl (lo) rfl (Nat.le_of_ble_eq_true rfl) ?_
      refine mz_WP.run 80 rfl ?_
      refine mz_WP.getf rfl (lo) rfl (Nat.le_of_ble_eq_true rfl) ?_
      refine mz_WP.run 80 rfl ?_
      refine mz_WP.alN rfl lw rfl (by omega) (by decide) ?_
      rw [w4]
      refine mz_WP.run 80 rfl ?_
      refine mz_WP.getf rfl (lo) rfl (Nat.le_of_ble_eq_true rfl) ?_
      refine mz_WP.run 80 rfl ?_
      refine mz_WP.alN rfl rfl rfl (by omega) (by decide) ?_
      refine mz_WP.icmp rfl (fun c1 => ?_) (fun c1 => ?_)
      · rw [zmax_f c1] at nx
        refine mz_WP.run 80 rfl ?_
        refine mz_WP.getf rfl (lo) rfl (Nat.le_of_ble_eq_true rfl) ?_
        refine mz_WP.run 80 rfl ?_
        refine mz_WP.alN rfl rfl rfl (by omega) (by decide) ?_
        refine mz_WP.asN rfl rfl (by omega) rfl (by omega) (by decide) ?_
        rw [md_u2]
        refine mz_WP.run 80 rfl ?_
        exact nx
      · rw [zmax_t c1] at nx
        refine mz_WP.run 80 rfl ?_
        refine mz_WP.getf rfl (lo) rfl (Nat.le_of_ble_eq_true rfl) ?_
        refine mz_WP.run 80 rfl ?_
        refine mz_WP.alN rfl lw rfl (by omega) (by decide) ?_
        rw [w4]
        refine mz_WP.run 1 rfl ?_
        refine mz_WP.asN rfl rfl (by omega) rfl (by omega) (by decide) ?_
        rw [md_u2]
        refine mz_WP.run 80 rfl ?_
        exact nx
  -- cleared
  have clear : ∀ q i (x3 x4 : Option Value) (su wd ow la wk iw : Nat → Int32), i + q = 28 → (∀ d, d < i → su d = 0 ∧ wd d = 0) → mz_WP (mz_wc (e + 3)) (e + 3) 0 co_X11_layDays Q 7 [some (.ref 186), some (.int (nI c)), some (.int (nI i)), x3, x4] [] n (mdH h1 su wd ow la wk iw) 0 0 := by
    intro q
    induction q with
    | zero =>
      intro i x3 x4 su wd ow la wk iw hi hs
      have hi : i = 28 := by omega
      subst hi
      refine mz_WP.run 80 rfl ?_
      refine mz_WP.icmp rfl (fun cc => ?_) (fun cc => ?_)
      · refine mz_WP.run 2 rfl ?_
        exact sums (gJ g l).length 0 _ _ su wd ow la wk iw (by omega) hs
      · exact absurd (nI_le (Nat.le_refl _) (by decide)) cc
    | succ q ih =>
      intro i x3 x4 su wd ow la wk iw hi hs
      refine mz_WP.run 80 rfl ?_
      refine mz_WP.icmp rfl (fun cc => ?_) (fun cc => ?_)
      · exact absurd cc (nI_ge (by omega) (by decide))
      refine mz_WP.run 80 rfl ?_
      refine mz_WP.getf rfl (lo) rfl (Nat.le_of_ble_eq_true rfl) ?_
      refine mz_WP.run 80 rfl ?_
      refine mz_WP.asN rfl rfl (by omega) rfl (by omega) (by decide) ?_
      rw [md_u1]
      refine mz_WP.run 80 rfl ?_
      refine mz_WP.getf rfl (lo) rfl (Nat.le_of_ble_eq_true rfl) ?_
      refine mz_WP.run 80 rfl ?_
      refine mz_WP.asN rfl rfl (by omega) rfl (by omega) (by decide) ?_
      rw [md_u2]
      refine mz_WP.run 80 rfl ?_
      have nx := ih (i + 1) x3 x4 (upd su i (nI 0)) (upd wd i (nI 0)) ow la wk iw (by omega) (fun d hd => by
        by_cases hdi : d = i
        · subst hdi
          rw [updS, updS]
          exact ⟨nI_0, nI_0⟩
        · rw [updN hdi, updN hdi]
          exact hs d (by omega))
      rw [nI_succ i] at nx
      exact nx
  have start := clear 28 0 none none su wd ow la wk iw rfl (fun d hd => by omega)
  rw [E] at start
  refine mz_WP.run 2 rfl ?_
  exact start
end MDl
