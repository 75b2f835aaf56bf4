/-! Days; the journeys, read only -/
def jwid (q : Jrn) : Int32 := q.2.2.2 - q.2.2.1 + nI 1
def dsm (fr : Nat → Int32) (mr : Int32) (J : List Jrn) (d : Nat) : Int32 := J.foldl (fun a q => if q.1 / nI 1440 = nI d then a + jcost fr mr q else a) 0
def dwd (J : List Jrn) (d : Nat) : Int32 := J.foldl (fun a q => if q.1 / nI 1440 = nI d then zmax a (jwid q) else a) 0
def dow (cr : Nat → Int32) (sm wd : Int32) : Int32 := if wd = 0 then 0 else if rat 6 cr wd < sm then rat 6 cr wd else sm
theorem dsm_app {fr : Nat → Int32} {mr : Int32} {J : List Jrn} {q : Jrn} {d : Nat} : dsm fr mr (J ++ [q]) d = if q.1 / nI 1440 = nI d then dsm fr mr J d + jcost fr mr q else dsm fr mr J d := by
  unfold dsm
  rw [List.foldl_append]
  rfl
theorem dwd_app {J : List Jrn} {q : Jrn} {d : Nat} : dwd (J ++ [q]) d = if q.1 / nI 1440 = nI d then zmax (dwd J d) (jwid q) else dwd J d := by
  unfold dwd
  rw [List.foldl_append]
  rfl
/-- the greatest of k places from d on, and w -/
def wmx (f : Nat → Int32) : Nat → Nat → Int32 → Int32
  | 0, _, w => w
  | k + 1, d, w => wmx f k (d + 1) (zmax w (f d))
section DY
variable {e n : Nat} {h : mz_H} {Q : mz_Q} {z : Int32} {mo rc lz gz co jr : Nat → Int32} {sm wd ow : Nat → Int32} {zr fr cr wr : Nat → Int32} {mr ne : Int32} {c : Nat}
def JyA (h : mz_H) (c : Nat) (mo rc lz gz co jr : Nat → Int32) : Prop := h 155 = .inr (3, [.ref 156, .ref 158, .ref 160, .ref 162, .ref 164, .ref 166, .int (nI c)]) ∧ h 157 = .inl (0, 48, mo) ∧ h 159 = .inl (0, 48, rc) ∧ h 161 = .inl (0, 48, lz) ∧ h 163 = .inl (0, 48, gz) ∧ h 165 = .inl (0, 48, co) ∧ h 167 = .inl (0, 48, jr)
theorem JyA.to {h' : mz_H} (R : JyA h c mo rc lz gz co jr) (hh : ∀ b, 155 ≤ b → b ≤ 167 → h' b = h b) : JyA h' c mo rc lz gz co jr := by
  obtain ⟨e0, e1, e2, e3, e4, e5, e6⟩ := R
  exact ⟨(hh _ (by omega) (by omega)).trans e0, (hh _ (by omega) (by omega)).trans e1, (hh _ (by omega) (by omega)).trans e2, (hh _ (by omega) (by omega)).trans e3, (hh _ (by omega) (by omega)).trans e4, (hh _ (by omega) (by omega)).trans e5, (hh _ (by omega) (by omega)).trans e6⟩
theorem JyA.eq (R : JyA h c mo rc lz gz co jr) : jyH h (nI c) mo rc lz gz co jr = h := jy_id R.1 R.2.1 R.2.2.1 R.2.2.2.1 R.2.2.2.2.1 R.2.2.2.2.2.1 R.2.2.2.2.2.2
theorem r_jsize (R : JyA h c mo rc lz gz co jr) (H : Q (some (.int (nI c))) n h) : mz_wc (e + 1) 24 [.ref 155] n h Q := by
  refine mz_wc.enter (code := co_X3_size) (idx := 24) rfl rfl (Nat.le_of_ble_eq_true rfl) rfl rfl ?_
  refine mz_WP.run 80 rfl ?_
  refine mz_WP.getf rfl (R.1) rfl (Nat.le_of_ble_eq_true rfl) ?_
  exact mz_WP.ret rfl rfl H
theorem r_jmom {i : Int32} (F : Fx h) (R : JyA h c mo rc lz gz co jr) (H : Q (some (.int (rat 48 mo i))) n h) : mz_wc (e + 2) 25 [.ref 155, .int i] n h Q := by
  refine mz_wc.enter (code := co_X3_moment) (idx := 25) rfl rfl (Nat.le_of_ble_eq_true rfl) rfl rfl ?_
  refine mz_WP.run 80 rfl ?_
  refine mz_WP.getf rfl (R.1) rfl (Nat.le_of_ble_eq_true rfl) ?_
  refine mz_WP.run 80 rfl ?_
  refine mz_WP.cv rfl rfl (Nat.le_of_ble_eq_true rfl) rfl (F _ _ rfl) rfl (s_at (F _ _ rfl) R.2.1 (by decide) ?_)
  exact mz_WP.ret rfl rfl H
theorem r_jrides {i : Int32} (F : Fx h) (R : JyA h c mo rc lz gz co jr) (H : Q (some (.int (rat 48 rc i))) n h) : mz_wc (e + 2) 26 [.ref 155, .int i] n h Q := by
  refine mz_wc.enter (code := co_X3_ridesIn) (idx := 26) rfl rfl (Nat.le_of_ble_eq_true rfl) rfl rfl ?_
  refine mz_WP.run 80 rfl ?_
  refine mz_WP.getf rfl (R.1) rfl (Nat.le_of_ble_eq_true rfl) ?_
  refine mz_WP.run 80 rfl ?_
  refine mz_WP.cv rfl rfl (Nat.le_of_ble_eq_true rfl) rfl (F _ _ rfl) rfl (s_at (F _ _ rfl) R.2.2.1 (by decide) ?_)
  exact mz_WP.ret rfl rfl H
theorem r_jcostA {i : Int32} (F : Fx h) (R : JyA h c mo rc lz gz co jr) (H : Q (some (.int (rat 48 co i))) n h) : mz_wc (e + 2) 28 [.ref 155, .int i] n h Q := by
  refine mz_wc.enter (code := co_X3_cost) (idx := 28) rfl rfl (Nat.le_of_ble_eq_true rfl) rfl rfl ?_
  refine mz_WP.run 80 rfl ?_
  refine mz_WP.getf rfl (R.1) rfl (Nat.le_of_ble_eq_true rfl) ?_
  refine mz_WP.run 80 rfl ?_
  refine mz_WP.cv rfl rfl (Nat.le_of_ble_eq_true rfl) rfl (F _ _ rfl) rfl (s_at (F _ _ rfl) R.2.2.2.2.2.1 (by decide) ?_)
  exact mz_WP.ret rfl rfl H
theorem r_jofr {i : Int32} (F : Fx h) (R : JyA h c mo rc lz gz co jr) (H : Q (some (.int (rat 48 jr i))) n h) : mz_wc (e + 2) 29 [.ref 155, .int i] n h Q := by
  refine mz_wc.enter (code := co_X3_journeyOfRide) (idx := 29) rfl rfl (Nat.le_of_ble_eq_true rfl) rfl rfl ?_
  refine mz_WP.run 80 rfl ?_
  refine mz_WP.getf rfl (R.1) rfl (Nat.le_of_ble_eq_true rfl) ?_
  refine mz_WP.run 80 rfl ?_
  refine mz_WP.cv rfl rfl (Nat.le_of_ble_eq_true rfl) rfl (F _ _ rfl) rfl (s_at (F _ _ rfl) R.2.2.2.2.2.2 (by decide) ?_)
  exact mz_WP.ret rfl rfl H
theorem r_jwidth {j : Nat} (F : Fx h) (R : JyA h c mo rc lz gz co jr) (hj : j < 48) (H : Q (some (.int (gz j - lz j + nI 1))) n h) : mz_wc (e + 2) 27 [.ref 155, .int (nI j)] n h Q := by
  rw [← R.eq]
  exact s_jwidth F hj (by rw [R.eq]; exact H)
theorem JyA.dy (R : JyA h c mo rc lz gz co jr) : JyA (dyH h sm wd ow) c mo rc lz gz co jr := R.to (fun b _ h2 => dy_lt (by omega))
theorem TrA.dy (T : TrA h 32 zr fr cr wr mr ne) : TrA (dyH h sm wd ow) 32 zr fr cr wr mr ne := T.to (fun b _ h2 => dy_lt (by omega))
theorem s_dbuild {J : List Jrn} (F : Fx h) (R : JyA h J.length mo rc lz gz co jr) (JR : JRep J mo rc lz gz) (hco : ∀ j q, J[j]? = some q → co j = jcost fr mr q) (hd : ∀ (j : Nat) (q : Jrn), J[j]? = some q → ∃ d, d < 28 ∧ q.1 / nI 1440 = nI d) (T : TrA h 32 zr fr cr wr mr ne) (hk : J.length ≤ 48) (H : ∀ sm wd ow, (∀ d, d < 28 → sm d = dsm fr mr J d ∧ wd d = dwd J d ∧ ow d = dow cr (dsm fr mr J d) (dwd J d)) → Q none n (dyH h sm wd ow)) : mz_wc (e + 4) 12 [.ref 168, .ref 155, .ref 32] n (dyH h sm wd ow) Q := by
  have F' : ∀ {sm wd ow : Nat → Int32}, Fx (dyH h sm wd ow) := dy_F F
  refine mz_wc.enter (code := co_X2_build) (idx := 12) rfl rfl (Nat.le_of_ble_eq_true rfl) rfl rfl ?_
  refine mz_WP.run 80 rfl ?_
  refine mz_WP.getf rfl (F' _ _ rfl) rfl (Nat.le_of_ble_eq_true rfl) ?_
  refine mz_WP.run 80 rfl ?_
  refine mz_WP.cv rfl rfl (Nat.le_of_ble_eq_true rfl) rfl (F' _ _ rfl) rfl (s_fill (F' _ _ rfl) rfl (by decide) (by decide) ?_)
  rw [dy_u1]
  refine mz_WP.run 80 rfl ?_
  refine mz_WP.getf rfl (F' _ _ rfl) rfl (Nat.le_of_ble_eq_true rfl) ?_
  refine mz_WP.run 80 rfl ?_
  refine mz_WP.cv rfl rfl (Nat.le_of_ble_eq_true rfl) rfl (F' _ _ rfl) rfl (s_fill (F' _ _ rfl) rfl (by decide) (by decide) ?_)
  rw [dy_u2]
  refine mz_WP.run 2 rfl ?_
  have two : ∀ (x4 : Option Value) (i0 : Int32) (sm wd ow : Nat → Int32), (∀ d, d < 28 → sm d = dsm fr mr J d ∧ wd d = dwd J d) → mz_WP (mz_wc (e + 3)) (e + 3) 0 co_X2_build Q 82 [some (.ref 168), some (.ref 155), some (.ref 32), some (.int i0), x4] [] n (dyH h sm wd ow) 0 0 := by
    intro x4 i0 sm wd ow hs
    refine mz_WP.run 2 rfl ?_
    have loop2 : ∀ q i, i + q = 28 → ∀ ow, (∀ d, d < i → ow d = dow cr (dsm fr mr J d) (dwd J d)) → mz_WP (mz_wc (e + 3)) (e + 3) 0 co_X2_build Q 84 [some (.ref 168), some (.ref 155), some (.ref 32), some (.int (nI i)), x4] [] n (dyH h sm wd ow) 0 0 := by
      intro q
      induction q with
      | zero =>
        intro i hi ow hw
        have hi : i = 28 := by omega
        subst hi
        refine mz_WP.run 80 rfl ?_
        refine mz_WP.icmp rfl (fun c => ?_) (fun c => ?_)
        · exact mz_WP.vret rfl rfl (H sm wd ow (fun d hd => ⟨(hs d hd).1, (hs d hd).2, hw d hd⟩))
        · exact absurd (nI_le (Nat.le_refl _) (by decide)) c
      | succ q ih =>
        intro i hi ow hw
        refine mz_WP.run 80 rfl ?_
        refine mz_WP.icmp rfl (fun c => ?_) (fun c => ?_)
        · exact absurd c (nI_ge (by omega) (by decide))
        · refine mz_WP.run 80 rfl ?_
          refine mz_WP.getf rfl (F' _ _ rfl) rfl (Nat.le_of_ble_eq_true rfl) ?_
          refine mz_WP.run 80 rfl ?_
          refine mz_WP.getf rfl (F' _ _ rfl) rfl (Nat.le_of_ble_eq_true rfl) ?_
          refine mz_WP.run 80 rfl ?_
          refine mz_WP.cv rfl rfl (Nat.le_of_ble_eq_true rfl) rfl (F' _ _ rfl) rfl (s_at (F' _ _ rfl) rfl (by decide) ?_)
          rw [rat_in (by omega) (by decide)]
          refine mz_WP.run 80 rfl ?_
          refine mz_WP.getf rfl (F' _ _ rfl) rfl (Nat.le_of_ble_eq_true rfl) ?_
          refine mz_WP.run 80 rfl ?_
          refine mz_WP.cv rfl rfl (Nat.le_of_ble_eq_true rfl) rfl (F' _ _ rfl) rfl (s_at (F' _ _ rfl) rfl (by decide) ?_)
          rw [rat_in (by omega) (by decide)]
          refine mz_WP.cv rfl rfl (Nat.le_of_ble_eq_true rfl) rfl (T.dy.1) rfl (s_capped T.dy ?_)
          refine mz_WP.cv rfl rfl (Nat.le_of_ble_eq_true rfl) rfl (F' _ _ rfl) rfl (s_put (F' _ _ rfl) rfl (by decide) (by decide) ?_)
          rw [dy_u3, rput_in (by omega) (by decide)]
          refine mz_WP.run 80 rfl ?_
          have := ih (i + 1) (by omega) (upd ow i (dow cr (sm i) (wd i))) (fun d hd => by
            by_cases hdi : d = i
            · subst hdi
              rw [updS, (hs d (by omega)).1, (hs d (by omega)).2]
            · rw [updN hdi]
              exact hw d (by omega))
          rw [nI_succ] at this
          exact this
    exact loop2 28 0 rfl ow (fun d hd => by omega)
  have loop : ∀ q i, i + q = J.length → ∀ (x4 : Option Value) (sm wd : Nat → Int32), (∀ d, d < 28 → sm d = dsm fr mr (J.take i) d ∧ wd d = dwd (J.take i) d) → mz_WP (mz_wc (e + 3)) (e + 3) 0 co_X2_build Q 18 [some (.ref 168), some (.ref 155), some (.ref 32), some (.int (nI i)), x4] [] n (dyH h sm wd ow) 0 0 := by
    intro q
    induction q with
    | zero =>
      intro i hi x4 sm wd hs
      have hi : i = J.length := by omega
      subst hi
      rw [List.take_length] at hs
      refine mz_WP.run 80 rfl ?_
      refine mz_WP.cv rfl rfl (Nat.le_of_ble_eq_true rfl) rfl (R.dy.1) rfl (r_jsize R.dy ?_)
      refine mz_WP.icmp rfl (fun c => ?_) (fun c => ?_)
      · exact two x4 _ sm wd ow hs
      · exact absurd (nI_le (Nat.le_refl _) (by omega)) c
    | succ q ih =>
      intro i hi x4 sm wd hs
      obtain ⟨p, hp⟩ : ∃ p, J[i]? = some p := ⟨_, List.getElem?_eq_getElem (by omega)⟩
      obtain ⟨a1, a2, a3, a4⟩ := JR i p hp
      obtain ⟨d, hd28, hd⟩ := hd i p hp
      have htk : J.take (i + 1) = J.take i ++ [p] := by
        rw [List.take_add_one, hp]
        rfl
      refine mz_WP.run 80 rfl ?_
      refine mz_WP.cv rfl rfl (Nat.le_of_ble_eq_true rfl) rfl (R.dy.1) rfl (r_jsize R.dy ?_)
      refine mz_WP.icmp rfl (fun c => ?_) (fun c => ?_)
      · exact absurd c (nI_ge (by omega) (by omega))
      · refine mz_WP.run 80 rfl ?_
        refine mz_WP.cv rfl rfl (Nat.le_of_ble_eq_true rfl) rfl (R.dy.1) rfl (r_jmom F' R.dy ?_)
        rw [rat_in (by omega) (by decide), a1]
        refine mz_WP.cs rfl (by decide) rfl (Nat.le_of_ble_eq_true rfl) rfl (s_dayOf ?_)
        rw [hd]
        refine mz_WP.run 80 rfl ?_
        refine mz_WP.getf rfl (F' _ _ rfl) rfl (Nat.le_of_ble_eq_true rfl) ?_
        refine mz_WP.run 80 rfl ?_
        refine mz_WP.cv rfl rfl (Nat.le_of_ble_eq_true rfl) rfl (R.dy.1) rfl (r_jcostA F' R.dy ?_)
        rw [rat_in (by omega) (by decide), hco i p hp]
        refine mz_WP.cv rfl rfl (Nat.le_of_ble_eq_true rfl) rfl (F' _ _ rfl) rfl (s_add (F' _ _ rfl) rfl (by decide) (by decide) ?_)
        rw [dy_u1, rput_in hd28 (by decide), rat_in hd28 (by decide)]
        refine mz_WP.run 80 rfl ?_
        refine mz_WP.getf rfl (F' _ _ rfl) rfl (Nat.le_of_ble_eq_true rfl) ?_
        refine mz_WP.run 80 rfl ?_
        refine mz_WP.getf rfl (F' _ _ rfl) rfl (Nat.le_of_ble_eq_true rfl) ?_
        refine mz_WP.run 80 rfl ?_
        refine mz_WP.cv rfl rfl (Nat.le_of_ble_eq_true rfl) rfl (F' _ _ rfl) rfl (s_at (F' _ _ rfl) rfl (by decide) ?_)
        rw [rat_in hd28 (by decide)]
        refine mz_WP.run 80 rfl ?_
        refine mz_WP.cv rfl rfl (Nat.le_of_ble_eq_true rfl) rfl (R.dy.1) rfl (r_jwidth F' R.dy (by omega) ?_)
        rw [a3, a4]
        refine mz_WP.mx rfl rfl (by omega) (Nat.le_of_ble_eq_true rfl) ?_
        refine mz_WP.cv rfl rfl (Nat.le_of_ble_eq_true rfl) rfl (F' _ _ rfl) rfl (s_put (F' _ _ rfl) rfl (by decide) (by decide) ?_)
        rw [dy_u2, rput_in hd28 (by decide)]
        refine mz_WP.run 80 rfl ?_
        have := ih (i + 1) (by omega) (some (.int (nI d))) (upd sm d (sm d + jcost fr mr p)) (upd wd d (zmax (wd d) (jwid p))) (fun d2 hd2 => by
          rw [htk, dsm_app, dwd_app, hd]
          by_cases hdd : d2 = d
          · subst hdd
            rw [updS, updS, if_pos rfl, if_pos rfl, (hs d2 hd2).1, (hs d2 hd2).2]
            exact ⟨rfl, rfl⟩
          · have hne : ¬ nI d = nI d2 := fun z => hdd ((nI_eq (by omega) (by omega)).mp z).symm
            rw [updN hdd, updN hdd, if_neg hne, if_neg hne]
            exact hs d2 hd2)
        rw [nI_succ] at this
        exact this
  exact loop J.length 0 (by omega) none _ _ (fun d hd => ⟨if_pos hd, if_pos hd⟩)
/-- the days, read only -/
def DyA (h : mz_H) (sm wd ow : Nat → Int32) : Prop := h 170 = .inl (0, 28, sm) ∧ h 172 = .inl (0, 28, wd) ∧ h 174 = .inl (0, 28, ow)
theorem DyA.to {h' : mz_H} (R : DyA h sm wd ow) (hh : ∀ b, 168 ≤ b → b ≤ 174 → h' b = h b) : DyA h' sm wd ow := ⟨(hh _ (by omega) (by omega)).trans R.1, (hh _ (by omega) (by omega)).trans R.2.1, (hh _ (by omega) (by omega)).trans R.2.2⟩
theorem r_dsum {i : Int32} (F : Fx h) (R : DyA h sm wd ow) (H : Q (some (.int (rat 28 sm i))) n h) : mz_wc (e + 2) 13 [.ref 168, .int i] n h Q := by
  refine mz_wc.enter (code := co_X2_sum) (idx := 13) rfl rfl (Nat.le_of_ble_eq_true rfl) rfl rfl ?_
  refine mz_WP.run 80 rfl ?_
  refine mz_WP.getf rfl (F _ _ rfl) rfl (Nat.le_of_ble_eq_true rfl) ?_
  refine mz_WP.run 80 rfl ?_
  refine mz_WP.cv rfl rfl (Nat.le_of_ble_eq_true rfl) rfl (F _ _ rfl) rfl (s_at (F _ _ rfl) R.1 (by decide) ?_)
  exact mz_WP.ret rfl rfl H
theorem r_dwidth {i : Int32} (F : Fx h) (R : DyA h sm wd ow) (H : Q (some (.int (rat 28 wd i))) n h) : mz_wc (e + 2) 14 [.ref 168, .int i] n h Q := by
  refine mz_wc.enter (code := co_X2_width) (idx := 14) rfl rfl (Nat.le_of_ble_eq_true rfl) rfl rfl ?_
  refine mz_WP.run 80 rfl ?_
  refine mz_WP.getf rfl (F _ _ rfl) rfl (Nat.le_of_ble_eq_true rfl) ?_
  refine mz_WP.run 80 rfl ?_
  refine mz_WP.cv rfl rfl (Nat.le_of_ble_eq_true rfl) rfl (F _ _ rfl) rfl (s_at (F _ _ rfl) R.2.1 (by decide) ?_)
  exact mz_WP.ret rfl rfl H
theorem r_dowed {i : Int32} (F : Fx h) (R : DyA h sm wd ow) (H : Q (some (.int (rat 28 ow i))) n h) : mz_wc (e + 2) 15 [.ref 168, .int i] n h Q := by
  refine mz_wc.enter (code := co_X2_owed) (idx := 15) rfl rfl (Nat.le_of_ble_eq_true rfl) rfl rfl ?_
  refine mz_WP.run 80 rfl ?_
  refine mz_WP.getf rfl (F _ _ rfl) rfl (Nat.le_of_ble_eq_true rfl) ?_
  refine mz_WP.run 80 rfl ?_
  refine mz_WP.cv rfl rfl (Nat.le_of_ble_eq_true rfl) rfl (F _ _ rfl) rfl (s_at (F _ _ rfl) R.2.2 (by decide) ?_)
  exact mz_WP.ret rfl rfl H
theorem r_dallS (F : Fx h) (R : DyA h sm wd ow) (H : Q (some (.int (rsum sm 28))) n h) : mz_wc (e + 2) 16 [.ref 168] n h Q := by
  refine mz_wc.enter (code := co_X2_allSums) (idx := 16) rfl rfl (Nat.le_of_ble_eq_true rfl) rfl rfl ?_
  refine mz_WP.run 80 rfl ?_
  refine mz_WP.getf rfl (F _ _ rfl) rfl (Nat.le_of_ble_eq_true rfl) ?_
  refine mz_WP.cv rfl rfl (Nat.le_of_ble_eq_true rfl) rfl (F _ _ rfl) rfl (s_sum (F _ _ rfl) R.1 (by decide) ?_)
  exact mz_WP.ret rfl rfl H
theorem r_dallO (F : Fx h) (R : DyA h sm wd ow) (H : Q (some (.int (rsum ow 28))) n h) : mz_wc (e + 2) 17 [.ref 168] n h Q := by
  refine mz_wc.enter (code := co_X2_allOwed) (idx := 17) rfl rfl (Nat.le_of_ble_eq_true rfl) rfl rfl ?_
  refine mz_WP.run 80 rfl ?_
  refine mz_WP.getf rfl (F _ _ rfl) rfl (Nat.le_of_ble_eq_true rfl) ?_
  refine mz_WP.cv rfl rfl (Nat.le_of_ble_eq_true rfl) rfl (F _ _ rfl) rfl (s_sum (F _ _ rfl) R.2.2 (by decide) ?_)
  exact mz_WP.ret rfl rfl H
theorem r_dweek {d : Nat} (F : Fx h) (R : DyA h sm wd ow) (hd : d + 7 ≤ 28) (H : Q (some (.int (wmx wd 7 d 0))) n h) : mz_wc (e + 2) 18 [.ref 168, .int (nI d)] n h Q := by
  refine mz_wc.enter (code := co_X2_widthOfWeek) (idx := 18) rfl rfl (Nat.le_of_ble_eq_true rfl) rfl rfl ?_
  refine mz_WP.run 4 rfl ?_
  have loop : ∀ q i x, i + q = d + 7 → Q (some (.int (wmx wd q i x))) n h → mz_WP (mz_wc (e + 1)) (e + 1) 1 co_X2_widthOfWeek Q 4 [some (.ref 168), some (.int (nI d)), some (.int x), some (.int (nI i))] [] n h 0 0 := by
    intro q
    induction q with
    | zero =>
      intro i x hi H
      refine mz_WP.run 80 rfl ?_
      rw [nI_add]
      refine mz_WP.icmp rfl (fun c => ?_) (fun c => ?_)
      · refine mz_WP.run 80 rfl ?_
        exact mz_WP.ret rfl rfl H
      · exact absurd (nI_le (by omega) (by omega)) c
    | succ q ih =>
      intro i x hi H
      refine mz_WP.run 80 rfl ?_
      rw [nI_add]
      refine mz_WP.icmp rfl (fun c => ?_) (fun c => ?_)
      · exact absurd c (nI_ge (by omega) (by omega))
      · refine mz_WP.run 80 rfl ?_
        refine mz_WP.getf rfl (F _ _ rfl) rfl (Nat.le_of_ble_eq_true rfl) ?_
        refine mz_WP.run 80 rfl ?_
        refine mz_WP.cv rfl rfl (Nat.le_of_ble_eq_true rfl) rfl (F _ _ rfl) rfl (s_at (F _ _ rfl) R.2.1 (by decide) ?_)
        rw [rat_in (by omega) (by decide)]
        refine mz_WP.mx rfl rfl (by omega) (Nat.le_of_ble_eq_true rfl) ?_
        refine mz_WP.run 80 rfl ?_
        have := ih (i + 1) (zmax x (wd i)) (by omega) H
        rw [nI_succ] at this
        exact this
  exact loop 7 d 0 rfl H
end DY
