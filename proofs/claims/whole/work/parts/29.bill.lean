/-! Bill.reckon: all that follows from the taps -/
def RdS (h : mz_H) : Prop := ∃ (z : Int32) (bs es bm em kd le lb : Nat → Int32), h 140 = .inr (5, [.ref 141, .ref 143, .ref 145, .ref 147, .ref 149, .ref 151, .ref 153, .int z]) ∧ h 142 = .inl (0, 48, bs) ∧ h 144 = .inl (0, 48, es) ∧ h 146 = .inl (0, 48, bm) ∧ h 148 = .inl (0, 48, em) ∧ h 150 = .inl (0, 48, kd) ∧ h 152 = .inl (0, 8, le) ∧ h 154 = .inl (0, 8, lb)
def JyS (h : mz_H) : Prop := ∃ (z : Int32) (mo rc lz gz co jr : Nat → Int32), h 155 = .inr (3, [.ref 156, .ref 158, .ref 160, .ref 162, .ref 164, .ref 166, .int z]) ∧ h 157 = .inl (0, 48, mo) ∧ h 159 = .inl (0, 48, rc) ∧ h 161 = .inl (0, 48, lz) ∧ h 163 = .inl (0, 48, gz) ∧ h 165 = .inl (0, 48, co) ∧ h 167 = .inl (0, 48, jr)
def DyS (h : mz_H) : Prop := ∃ sm wd ow : Nat → Int32, h 170 = .inl (0, 28, sm) ∧ h 172 = .inl (0, 28, wd) ∧ h 174 = .inl (0, 28, ow)
def PlS (h : mz_H) : Prop := ∃ cf wf wb sr iw : Nat → Int32, h 177 = .inl (0, 29, cf) ∧ h 179 = .inl (0, 29, wf) ∧ h 181 = .inl (0, 28, wb) ∧ h 183 = .inl (0, 4, sr) ∧ h 185 = .inl (0, 28, iw)
def BS (h : mz_H) : Prop := RdS h ∧ JyS h ∧ DyS h ∧ PlS h
/-! the pure values -/
def vL (k : Nat) (m s w : Nat → Int32) : List Rde := rl k m s w k
def vJ (ne : Int32) (zn : Int32 → Int32) (l : List Rde) : List Jrn := jl ne zn l l.length
def vO (fr cr : Nat → Int32) (mr : Int32) (J : List Jrn) : Nat → Int32 := fun d => dow cr (dsm fr mr J d) (dwd J d)
def vK (wr : Nat → Int32) (J : List Jrn) : Nat → Int32 := wkc wr (dwd J)
def PlR (h : mz_H) (ow wk : Nat → Int32) : Prop := ∃ cf wf wb sr iw : Nat → Int32, (h 177 = .inl (0, 29, cf) ∧ h 179 = .inl (0, 29, wf) ∧ h 181 = .inl (0, 28, wb) ∧ h 183 = .inl (0, 4, sr) ∧ h 185 = .inl (0, 28, iw)) ∧ cf 0 = (dpv ow wk 0).1 ∧ wf 0 = (dpv ow wk 0).2.1 ∧ (∀ j s, (wkd (bgn ow wk) 0)[j]? = some s → sr j = nI s) ∧ (∀ d, d < 28 → iw d = bI (inS (wkd (bgn ow wk) 0) d))
def DyR (h : mz_H) (fr cr : Nat → Int32) (mr : Int32) (J : List Jrn) : Prop := ∃ sm wd ow : Nat → Int32, DyA h sm wd ow ∧ ∀ d, d < 28 → sm d = dsm fr mr J d ∧ wd d = dwd J d ∧ ow d = vO fr cr mr J d
def JyR (h : mz_H) (fr : Nat → Int32) (mr ne : Int32) (zn : Int32 → Int32) (l : List Rde) : Prop := ∃ mo rc lz gz co jr : Nat → Int32, JyA h (vJ ne zn l).length mo rc lz gz co jr ∧ JRep (vJ ne zn l) mo rc lz gz ∧ (∀ j q, (vJ ne zn l)[j]? = some q → co j = jcost fr mr q) ∧ (∀ i, i < l.length → jr i = nI ((jl ne zn l (i + 1)).length - 1))
def RdR (h : mz_H) (l : List Rde) : Prop := ∃ bs es bm em kd : Nat → Int32, RdA h l.length bs es bm em kd ∧ RepA l bs es bm em kd
theorem dstep_c {o o' k k' : Int32} {w : Bool} {a b : Dpv} (h1 : o = o') (h2 : w = true → k = k') : dstep o k w a b = dstep o' k' w a b := by
  subst h1
  cases w with
  | true => rw [h2 rfl]
  | false =>
    unfold dstep
    rw [if_neg (fun z => absurd z.1 (by decide)), if_neg (fun z => absurd z.1 (by decide))]
theorem dpl_c {ow ow' wk wk' : Nat → Int32} (h1 : ∀ d, d < 28 → ow d = ow' d) (h2 : ∀ d, d ≤ 21 → wk d = wk' d) : ∀ r, dpl ow wk r = dpl ow' wk' r
  | 0 => rfl
  | r + 1 => by
    have ih := dpl_c h1 h2 r
    show dstep _ _ _ _ _ :: dpl ow wk r = dstep _ _ _ _ _ :: dpl ow' wk' r
    rw [ih, dstep_c (h1 (27 - r) (by omega)) (fun z => h2 (27 - r) (by have := of_decide_eq_true z; omega))]
theorem wmx_c {f g : Nat → Int32} : ∀ (k d : Nat) (x : Int32), (∀ j, d ≤ j → j < d + k → f j = g j) → wmx f k d x = wmx g k d x
  | 0, _, _, _ => rfl
  | k + 1, d, x, hh => by
    show wmx f k (d + 1) (zmax x (f d)) = wmx g k (d + 1) (zmax x (g d))
    rw [hh d (by omega) (by omega)]
    exact wmx_c k (d + 1) _ (fun j h1 h2 => hh j (by omega) (by omega))
theorem dpv_c {ow ow' wk wk' : Nat → Int32} (h1 : ∀ d, d < 28 → ow d = ow' d) (h2 : ∀ d, d ≤ 21 → wk d = wk' d) (d : Nat) : dpv ow wk d = dpv ow' wk' d := by
  unfold dpv
  rw [dpl_c h1 h2]
theorem bgn_c {ow ow' wk wk' : Nat → Int32} (h1 : ∀ d, d < 28 → ow d = ow' d) (h2 : ∀ d, d ≤ 21 → wk d = wk' d) : bgn ow wk = bgn ow' wk' := by
  funext d
  unfold bgn
  rw [dpv_c h1 h2]
section BL
variable {e n : Nat} {h : mz_H} {Q : mz_Q} {t : Nat} {m s w : Nat → Int32} {zr fr cr wr : Nat → Int32} {mr ne : Int32} {k : Nat}
theorem r_rbuild (F : Fx h) (S : RdS h) (T : TA h t (nI k) m s w) (ht : t + 6 < 140) (hk : k ≤ 48) (hs : ∀ j, j < k → ∃ a, a < 8 ∧ s j = nI a) (H : ∀ bs es bm em kd le lb, RepA (vL k m s w) bs es bm em kd → Q none n (rdH h (nI (vL k m s w).length) bs es bm em kd le lb)) : mz_wc (e + 4) 39 [.ref 140, .ref t] n h Q := by
  obtain ⟨z, bs, es, bm, em, kd, le, lb, e0, e1, e2, e3, e4, e5, e6, e7⟩ := S
  have := s_rbuild (e := e) (Q := Q) (n := n) (z := z) (bs := bs) (es := es) (bm := bm) (em := em) (kd := kd) (le := le) (lb := lb) F T ht hk hs H
  rw [rd_id e0 e1 e2 e3 e4 e5 e6 e7] at this
  exact this
theorem r_jbuild {l : List Rde} {bs es bm em kd : Nat → Int32} (F : Fx h) (S : JyS h) (R : RdA h l.length bs es bm em kd) (RA : RepA l bs es bm em kd) (T : TrA h 32 zr fr cr wr mr ne) (hk : l.length ≤ 48) (H : ∀ mo rc lz gz co jr, JRep (vJ ne (rat 8 zr) l) mo rc lz gz → (∀ j q, (vJ ne (rat 8 zr) l)[j]? = some q → co j = jcost fr mr q) → (∀ i, i < l.length → jr i = nI ((jl ne (rat 8 zr) l (i + 1)).length - 1)) → Q none n (jyH h (nI (vJ ne (rat 8 zr) l).length) mo rc lz gz co jr)) : mz_wc (e + 4) 20 [.ref 155, .ref 140, .ref 32] n h Q := by
  obtain ⟨z, mo, rc, lz, gz, co, jr, e0, e1, e2, e3, e4, e5, e6⟩ := S
  have := s_jbuild (e := e) (Q := Q) (n := n) (z := z) (mo := mo) (rc := rc) (lz := lz) (gz := gz) (co := co) (jr := jr) F R RA T hk H
  rw [jy_id e0 e1 e2 e3 e4 e5 e6] at this
  exact this
theorem r_dbuild {J : List Jrn} {mo rc lz gz co jr : Nat → Int32} (F : Fx h) (S : DyS h) (R : JyA h J.length mo rc lz gz co jr) (JR : JRep J mo rc lz gz) (hco : ∀ j q, J[j]? = some q → co j = jcost fr mr q) (hd : ∀ (j : Nat) (q : Jrn), J[j]? = some q → ∃ d, d < 28 ∧ q.1 / nI 1440 = nI d) (T : TrA h 32 zr fr cr wr mr ne) (hk : J.length ≤ 48) (H : ∀ sm wd ow, (∀ d, d < 28 → sm d = dsm fr mr J d ∧ wd d = dwd J d ∧ ow d = vO fr cr mr J d) → Q none n (dyH h sm wd ow)) : mz_wc (e + 4) 12 [.ref 168, .ref 155, .ref 32] n h Q := by
  obtain ⟨sm, wd, ow, e1, e2, e3⟩ := S
  have := s_dbuild (e := e) (Q := Q) (n := n) (sm := sm) (wd := wd) (ow := ow) F R JR hco hd T hk H
  rw [dy_id e1 e2 e3] at this
  exact this
theorem r_pbuild {J : List Jrn} {sm wd ow : Nat → Int32} (F : Fx h) (S : PlS h) (R : DyA h sm wd ow) (hD : ∀ d, d < 28 → sm d = dsm fr mr J d ∧ wd d = dwd J d ∧ ow d = vO fr cr mr J d) (T : TrA h 32 zr fr cr wr mr ne) (H : ∀ cf wf wb sr iw : Nat → Int32, PlR (plH h cf wf wb sr iw) (vO fr cr mr J) (vK wr J) → Q none n (plH h cf wf wb sr iw)) : mz_wc (e + 3) 31 [.ref 175, .ref 168, .ref 32] n h Q := by
  obtain ⟨cf, wf, wb, sr, iw, e1, e2, e3, e4, e5⟩ := S
  have c1 : ∀ d, d < 28 → ow d = vO fr cr mr J d := fun d hd => (hD d hd).2.2
  have c2 : ∀ d, d ≤ 21 → wkc wr wd d = vK wr J d := by
    intro d hd
    unfold vK wkc
    rw [wmx_c 7 d 0 (fun j h1 h2 => (hD j (by omega)).2.1)]
  have := s_pbuild (e := e) (Q := Q) (n := n) (cf := cf) (wf := wf) (wb := wb) (sr := sr) (iw := iw) F R T (fun cf wf wb sr iw a1 a2 a3 a4 => H cf wf wb sr iw ⟨cf, wf, wb, sr, iw, ⟨rfl, rfl, rfl, rfl, rfl⟩, by rw [a1, dpv_c c1 c2], by rw [a2, dpv_c c1 c2], by rw [bgn_c c1 c2] at a3; exact a3, by rw [bgn_c c1 c2] at a4; exact a4⟩)
  rw [pl_id e1 e2 e3 e4 e5] at this
  exact this
theorem jl_mom {near : Int32} {zn : Int32 → Int32} {l : List Rde} (P : Int32 → Prop) (hl : ∀ (j : Nat) (r : Rde), l[j]? = some r → P r.2.2.2.1) : ∀ i (j : Nat) (q : Jrn), (jl near zn l i)[j]? = some q → P q.1
  | 0, j, q, h => by simp [jl] at h
  | i + 1, j, q, h => by
    have ih := jl_mom P hl (near := near) (zn := zn) i
    unfold jl at h
    split at h
    · exact ih j q h
    · rename_i r hr
      split at h
      · unfold jmod at h
        split at h
        · rename_i q0 hq0
          by_cases hj : j = (jl near zn l i).length - 1
          · subst hj
            rw [List.getElem?_set_self ((List.getElem?_eq_some_iff.mp hq0).1)] at h
            cases h
            exact ih _ q0 hq0
          · rw [List.getElem?_set_ne (fun z => hj z.symm)] at h
            exact ih j q h
        · exact ih j q h
      · by_cases hj : j < (jl near zn l i).length
        · rw [List.getElem?_append_left hj] at h
          exact ih j q h
        · rw [List.getElem?_append_right (by omega)] at h
          have hz : j - (jl near zn l i).length < 1 := (List.getElem?_eq_some_iff.mp h).1
          rw [show j - (jl near zn l i).length = 0 by omega] at h
          cases h
          exact hl i r hr
theorem rl_mom {P : Int32 → Prop} (hm : ∀ j, j < k → P (m j)) : ∀ i, i ≤ k → ∀ (j : Nat) (r : Rde), (rl k m s w i)[j]? = some r → P r.2.2.2.1 ∧ P r.2.2.2.2
  | 0, _, j, r, h => by simp [rl] at h
  | i + 1, hi, j, r, h => by
    have ih := rl_mom hm i (by omega)
    unfold rl at h
    split at h
    · exact ih j r h
    · by_cases hj : j < (rl k m s w i).length
      · rw [List.getElem?_append_left hj] at h
        exact ih j r h
      · rw [List.getElem?_append_right (by omega)] at h
        have hz : j - (rl k m s w i).length < 1 := (List.getElem?_eq_some_iff.mp h).1
        rw [show j - (rl k m s w i).length = 0 by omega] at h
        cases h
        unfold rideOf
        split
        · rename_i hw
          exact ⟨hm i (by omega), hm (i + 1) (wholeB_iff.mp hw).1⟩
        · split
          · exact ⟨hm i (by omega), hm i (by omega)⟩
          · exact ⟨hm i (by omega), hm i (by omega)⟩
def dayP (x : Int32) : Prop := ∃ d, d < 28 ∧ x / nI 1440 = nI d
theorem dayP_of {x : Nat} (hx : x < 40320) : dayP (nI x) := ⟨x / 1440, by omega, pk_div (by omega) (by omega) (by omega)⟩
theorem s_breckon (F : Fx h) (B : BS h) (T : TA h t (nI k) m s w) (ht : t + 6 < 139) (hk : k ≤ 48) (hs : ∀ j, j < k → ∃ a, a < 8 ∧ s j = nI a) (hm : ∀ j, j < k → ∃ x, x < 40320 ∧ m j = nI x) (Tr : TrA h 32 zr fr cr wr mr ne) (H : ∀ h', Fx h' → BS h' → (∀ b, b < 140 ∨ 185 < b → h' b = h b) → RdR h' (vL k m s w) → JyR h' fr mr ne (rat 8 zr) (vL k m s w) → DyR h' fr cr mr (vJ ne (rat 8 zr) (vL k m s w)) → PlR h' (vO fr cr mr (vJ ne (rat 8 zr) (vL k m s w))) (vK wr (vJ ne (rat 8 zr) (vL k m s w))) → Q none n h') : mz_wc (e + 5) 10 [.ref 139, .ref t, .ref 32] n h Q := by
  obtain ⟨BR, BJ, BD, BP⟩ := B
  have hl : (vL k m s w).length ≤ 48 := Nat.le_trans (rl_len k m s w k) hk
  have hJl : (vJ ne (rat 8 zr) (vL k m s w)).length ≤ 48 := Nat.le_trans (jl_len _ _ _ _) hl
  have hday : ∀ (j : Nat) (q : Jrn), (vJ ne (rat 8 zr) (vL k m s w))[j]? = some q → ∃ d, d < 28 ∧ q.1 / nI 1440 = nI d := jl_mom dayP (fun j r hr => (rl_mom (P := dayP) (fun j hj => by
    obtain ⟨x, hx, he⟩ := hm j hj
    rw [he]
    exact dayP_of hx) k (Nat.le_refl k) j r hr).1) _
  have F1 : ∀ {z bs es bm em kd le lb}, Fx (rdH h z bs es bm em kd le lb) := rd_F F
  refine mz_wc.enter (code := co_X1_reckon) (idx := 10) rfl rfl (Nat.le_of_ble_eq_true rfl) rfl rfl ?_
  refine mz_WP.run 80 rfl ?_
  refine mz_WP.getf rfl (F _ _ rfl) rfl (Nat.le_of_ble_eq_true rfl) ?_
  refine mz_WP.run 80 rfl ?_
  obtain ⟨z0, b1, b2, b3, b4, b5, b6, b7, g0, g1⟩ := id BR
  refine mz_WP.cv rfl rfl (Nat.le_of_ble_eq_true rfl) rfl (g0) rfl (r_rbuild F BR T (by omega) hk hs (fun bs es bm em kd le lb RA => ?_))
  refine mz_WP.run 80 rfl ?_
  refine mz_WP.getf rfl (F1 _ _ rfl) rfl (Nat.le_of_ble_eq_true rfl) ?_
  refine mz_WP.run 80 rfl ?_
  refine mz_WP.getf rfl (F1 _ _ rfl) rfl (Nat.le_of_ble_eq_true rfl) ?_
  refine mz_WP.run 80 rfl ?_
  have T1 : TrA (rdH h (nI (vL k m s w).length) bs es bm em kd le lb) 32 zr fr cr wr mr ne := Tr.to (fun b _ _ => rd_lt (by omega))
  have R1 : RdA (rdH h (nI (vL k m s w).length) bs es bm em kd le lb) (vL k m s w).length bs es bm em kd := ⟨rfl, rfl, rfl, rfl, rfl, rfl⟩
  obtain ⟨z1, c1, c2, c3, c4, c5, c6, f0, f1, f2, f3, f4, f5, f6⟩ := BJ
  have J1 : JyS (rdH h (nI (vL k m s w).length) bs es bm em kd le lb) := ⟨z1, c1, c2, c3, c4, c5, c6, f0, f1, f2, f3, f4, f5, f6⟩
  refine mz_WP.cv rfl rfl (Nat.le_of_ble_eq_true rfl) rfl (f0) rfl (r_jbuild F1 J1 R1 RA T1 hl (fun mo rc lz gz co jr JR hco hjr => ?_))
  have F2 : ∀ {z mo rc lz gz co jr}, Fx (jyH (rdH h (nI (vL k m s w).length) bs es bm em kd le lb) z mo rc lz gz co jr) := jy_F F1
  refine mz_WP.run 80 rfl ?_
  refine mz_WP.getf rfl (F2 _ _ rfl) rfl (Nat.le_of_ble_eq_true rfl) ?_
  refine mz_WP.run 80 rfl ?_
  refine mz_WP.getf rfl (F2 _ _ rfl) rfl (Nat.le_of_ble_eq_true rfl) ?_
  refine mz_WP.run 80 rfl ?_
  have T2 : TrA (jyH (rdH h (nI (vL k m s w).length) bs es bm em kd le lb) (nI (vJ ne (rat 8 zr) (vL k m s w)).length) mo rc lz gz co jr) 32 zr fr cr wr mr ne := T1.jy
  have J2 : JyA (jyH (rdH h (nI (vL k m s w).length) bs es bm em kd le lb) (nI (vJ ne (rat 8 zr) (vL k m s w)).length) mo rc lz gz co jr) (vJ ne (rat 8 zr) (vL k m s w)).length mo rc lz gz co jr := ⟨rfl, rfl, rfl, rfl, rfl, rfl, rfl⟩
  obtain ⟨d1, d2, d3, i1, i2, i3⟩ := BD
  have D2 : DyS (jyH (rdH h (nI (vL k m s w).length) bs es bm em kd le lb) (nI (vJ ne (rat 8 zr) (vL k m s w)).length) mo rc lz gz co jr) := ⟨d1, d2, d3, i1, i2, i3⟩
  refine mz_WP.cv rfl rfl (Nat.le_of_ble_eq_true rfl) rfl (F2 _ _ rfl) rfl (r_dbuild F2 D2 J2 JR hco hday T2 hJl (fun sm wd ow hD => ?_))
  have F3 : ∀ {sm wd ow}, Fx (dyH (jyH (rdH h (nI (vL k m s w).length) bs es bm em kd le lb) (nI (vJ ne (rat 8 zr) (vL k m s w)).length) mo rc lz gz co jr) sm wd ow) := dy_F F2
  refine mz_WP.run 80 rfl ?_
  refine mz_WP.getf rfl (F3 _ _ rfl) rfl (Nat.le_of_ble_eq_true rfl) ?_
  refine mz_WP.run 80 rfl ?_
  refine mz_WP.getf rfl (F3 _ _ rfl) rfl (Nat.le_of_ble_eq_true rfl) ?_
  refine mz_WP.run 80 rfl ?_
  obtain ⟨p1, p2, p3, p4, p5, q1, q2, q3, q4, q5⟩ := BP
  have P3 : PlS (dyH (jyH (rdH h (nI (vL k m s w).length) bs es bm em kd le lb) (nI (vJ ne (rat 8 zr) (vL k m s w)).length) mo rc lz gz co jr) sm wd ow) := ⟨p1, p2, p3, p4, p5, q1, q2, q3, q4, q5⟩
  refine mz_WP.cv rfl rfl (Nat.le_of_ble_eq_true rfl) rfl (F3 _ _ rfl) rfl (r_pbuild F3 P3 ⟨rfl, rfl, rfl⟩ hD T2.dy (fun cf wf wb sr iw hP => ?_))
  refine mz_WP.vret rfl rfl (H _ (pl_F F3) ⟨⟨_, bs, es, bm, em, kd, le, lb, rfl, rfl, rfl, rfl, rfl, rfl, rfl, rfl⟩, ⟨_, mo, rc, lz, gz, co, jr, rfl, rfl, rfl, rfl, rfl, rfl, rfl⟩, ⟨sm, wd, ow, rfl, rfl, rfl⟩, ⟨cf, wf, wb, sr, iw, rfl, rfl, rfl, rfl, rfl⟩⟩ (fun b hb => ?_) ⟨bs, es, bm, em, kd, ⟨rfl, rfl, rfl, rfl, rfl, rfl⟩, RA⟩ ⟨mo, rc, lz, gz, co, jr, ⟨rfl, rfl, rfl, rfl, rfl, rfl, rfl⟩, JR, hco, hjr⟩ ⟨sm, wd, ow, ⟨rfl, rfl, rfl⟩, hD⟩ hP)
  rw [pl_lt (by omega), dy_lt (by omega), jy_lt (by omega), rd_lt (by omega)]
end BL
