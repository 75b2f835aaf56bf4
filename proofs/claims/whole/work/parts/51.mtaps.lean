/-! the reference: reading and writing places; the taps -/
section MX
variable {e d rk : Nat} {code : List mz_I} {Q : mz_Q} {pc : Nat} {L : List (Option Value)} {n : Nat} {h : mz_H} {bc bs : Nat}
theorem mz_WP.alN {len x y a m k : Nat} {f : Nat → Int32} {i : Int32} {r : List Value} (hl : mz_lk code pc = some (.iaload, len, x, y)) (ha : h a = .inl (0, m, f)) (hi : i = nI k) (hk : k < m) (hm : m < 2 ^ 31) (H : mz_WP (mz_wc e) d rk code Q (pc + 1) L (.int (f k) :: r) n h bc bs) : mz_WP (mz_wc e) d rk code Q pc L (.int i :: .ref a :: r) n h bc bs := by
  subst hi
  refine mz_WP.ald hl ha (vp_in_nI (by omega) (by omega)) ?_
  rw [nI_clamp (by omega)]
  exact H
theorem mz_WP.blN {len x y a m k : Nat} {f : Nat → Int32} {i : Int32} {r : List Value} (hl : mz_lk code pc = some (.baload, len, x, y)) (ha : h a = .inl (1, m, f)) (hi : i = nI k) (hk : k < m) (hm : m < 2 ^ 31) (H : mz_WP (mz_wc e) d rk code Q (pc + 1) L (.int (f k) :: r) n h bc bs) : mz_WP (mz_wc e) d rk code Q pc L (.int i :: .ref a :: r) n h bc bs := by
  subst hi
  refine mz_WP.bld hl ha (vp_in_nI (by omega) (by omega)) ?_
  rw [nI_clamp (by omega)]
  exact H
theorem mz_WP.asN {len x y a m k : Nat} {f : Nat → Int32} {i v : Int32} {r : List Value} (hl : mz_lk code pc = some (.iastore, len, x, y)) (ha : h a = .inl (0, m, f)) (h2 : 2 ≤ a) (hi : i = nI k) (hk : k < m) (hm : m < 2 ^ 31) (H : mz_WP (mz_wc e) d rk code Q (pc + 1) L r n (mz_up h a (.inl (0, m, upd f k v))) bc bs) : mz_WP (mz_wc e) d rk code Q pc L (.int v :: .int i :: .ref a :: r) n h bc bs := by
  subst hi
  refine mz_WP.ast hl ha h2 (vp_in_nI (by omega) (by omega)) ?_
  rw [nI_clamp (by omega)]
  exact H
theorem nar_b (b : Bool) : vp_nar .boolean (bI b) = bI b := by cases b <;> decide
theorem mz_WP.bsN {len x y a m k : Nat} {f : Nat → Int32} {i v : Int32} {r : List Value} (b : Bool) (hl : mz_lk code pc = some (.bastore, len, x, y)) (ha : h a = .inl (1, m, f)) (h2 : 2 ≤ a) (hi : i = nI k) (hk : k < m) (hm : m < 2 ^ 31) (hv : v = bI b) (H : mz_WP (mz_wc e) d rk code Q (pc + 1) L r n (mz_up h a (.inl (1, m, upd f k (bI b)))) bc bs) : mz_WP (mz_wc e) d rk code Q pc L (.int v :: .int i :: .ref a :: r) n h bc bs := by
  subst hi
  subst hv
  refine mz_WP.bst hl ha h2 (vp_in_nI (by omega) (by omega)) ?_
  rw [nI_clamp (by omega), nar_b]
  exact H
end MX
theorem ix0 {c i : Nat} : nI 0 + nI 48 * nI c + nI i = nI (48 * c + i) := by
  rw [pk_mul, nI_add, nI_add]
  congr 1
  omega
theorem ix192 {c i : Nat} : nI 192 + nI 48 * nI c + nI i = nI (192 + 48 * c + i) := by
  rw [pk_mul, nI_add, nI_add]
section MT
variable {e n : Nat} {h : mz_H} {Q : mz_Q} {g : Nat → Int32} {r j : Int32}
theorem m_in {x lo hi : Int32} (H : Q (some (.int (bI (inB x lo hi)))) n h) : mz_wc (e + 1) 118 [.int x, .int lo, .int hi] n h Q := by
  refine mz_wc.enter (code := co_X11_in) (idx := 118) rfl rfl (Nat.le_of_ble_eq_true rfl) rfl rfl ?_
  refine mz_WP.run 80 rfl ?_
  have out : inB x lo hi = false → mz_WP (mz_wc e) e 2 co_X11_in Q 14 [some (.int x), some (.int lo), some (.int hi)] [] n h 0 0 := by
    intro hb
    rw [hb] at H
    refine mz_WP.run 80 rfl ?_
    exact mz_WP.zret rfl rfl (Or.inl rfl) H
  refine mz_WP.icmp rfl (fun c => ?_) (fun c => ?_)
  · have c : x < lo := c
    exact out (by unfold inB; rw [decide_eq_true c]; rfl)
  · have c : ¬ x < lo := c
    refine mz_WP.run 80 rfl ?_
    refine mz_WP.icmp rfl (fun c2 => ?_) (fun c2 => ?_)
    · have c2 : hi < x := c2
      exact out (by unfold inB; rw [decide_eq_true c2, Bool.not_true, Bool.and_false])
    · have c2 : ¬ hi < x := c2
      have hb : inB x lo hi = true := by unfold inB; rw [decide_eq_false c, decide_eq_false c2]; rfl
      rw [hb] at H
      refine mz_WP.run 80 rfl ?_
      refine mz_WP.run 80 rfl ?_
      exact mz_WP.zret rfl rfl (Or.inr rfl) H
theorem m_isCard {x : Int32} (H : Q (some (.int (bI (inB x (nI 0) (nI 3))))) n h) : mz_wc (e + 2) 119 [.int x] n h Q := by
  refine mz_wc.enter (code := co_X11_isCard) (idx := 119) rfl rfl (Nat.le_of_ble_eq_true rfl) rfl rfl ?_
  refine mz_WP.run 80 rfl ?_
  refine mz_WP.cs rfl (by decide) rfl (Nat.le_of_ble_eq_true rfl) rfl (m_in ?_)
  exact mz_WP.zret rfl rfl (bI_01 _) H
theorem m_isStation {x : Int32} (H : Q (some (.int (bI (inB x (nI 0) (nI 7))))) n h) : mz_wc (e + 2) 120 [.int x] n h Q := by
  refine mz_wc.enter (code := co_X11_isStation) (idx := 120) rfl rfl (Nat.le_of_ble_eq_true rfl) rfl rfl ?_
  refine mz_WP.run 80 rfl ?_
  refine mz_WP.cs rfl (by decide) rfl (Nat.le_of_ble_eq_true rfl) rfl (m_in ?_)
  exact mz_WP.zret rfl rfl (bI_01 _) H
theorem m_isDay {x : Int32} (H : Q (some (.int (bI (inB x (nI 0) (nI 27))))) n h) : mz_wc (e + 2) 121 [.int x] n h Q := by
  refine mz_wc.enter (code := co_X11_isDay) (idx := 121) rfl rfl (Nat.le_of_ble_eq_true rfl) rfl rfl ?_
  refine mz_WP.run 80 rfl ?_
  refine mz_WP.cs rfl (by decide) rfl (Nat.le_of_ble_eq_true rfl) rfl (m_in ?_)
  exact mz_WP.zret rfl rfl (bI_01 _) H
theorem m_when {c i : Nat} (ho : h 186 = mo r j) (hg : h 187 = .inl (0, 423, g)) (hc : c < 4) (hi : i < 48) (H : Q (some (.int (gm g c i))) n h) : mz_wc (e + 1) 124 [.ref 186, .int (nI c), .int (nI i)] n h Q := by
  refine mz_wc.enter (code := co_X11_when) (idx := 124) rfl rfl (Nat.le_of_ble_eq_true rfl) rfl rfl ?_
  refine mz_WP.run 80 rfl ?_
  refine mz_WP.getf rfl (ho) rfl (Nat.le_of_ble_eq_true rfl) ?_
  refine mz_WP.run 80 rfl ?_
  refine mz_WP.alN rfl hg ix0 (by omega) (by decide) ?_
  exact mz_WP.ret rfl rfl H
theorem m_sta {c i : Nat} (ho : h 186 = mo r j) (hg : h 187 = .inl (0, 423, g)) (hc : c < 4) (hi : i < 48) (H : Q (some (.int (gS g c i))) n h) : mz_wc (e + 1) 125 [.ref 186, .int (nI c), .int (nI i)] n h Q := by
  refine mz_wc.enter (code := co_X11_stationOf) (idx := 125) rfl rfl (Nat.le_of_ble_eq_true rfl) rfl rfl ?_
  refine mz_WP.run 80 rfl ?_
  refine mz_WP.getf rfl (ho) rfl (Nat.le_of_ble_eq_true rfl) ?_
  refine mz_WP.run 80 rfl ?_
  refine mz_WP.alN rfl hg ix192 (by omega) (by decide) ?_
  refine mz_WP.run 80 rfl ?_
  refine mz_WP.div rfl (by decide) ?_
  exact mz_WP.ret rfl rfl H
theorem m_isIn {c i : Nat} (ho : h 186 = mo r j) (hg : h 187 = .inl (0, 423, g)) (hc : c < 4) (hi : i < 48) (H : Q (some (.int (bI (decide (gY g c i = 0))))) n h) : mz_wc (e + 1) 126 [.ref 186, .int (nI c), .int (nI i)] n h Q := by
  refine mz_wc.enter (code := co_X11_isIn) (idx := 126) rfl rfl (Nat.le_of_ble_eq_true rfl) rfl rfl ?_
  refine mz_WP.run 80 rfl ?_
  refine mz_WP.getf rfl (ho) rfl (Nat.le_of_ble_eq_true rfl) ?_
  refine mz_WP.run 80 rfl ?_
  refine mz_WP.alN rfl hg ix192 (by omega) (by decide) ?_
  refine mz_WP.run 80 rfl ?_
  refine mz_WP.rem rfl (by decide) ?_
  refine mz_WP.ifc rfl (fun c => ?_) (fun c => ?_)
  · have c : ¬ gY g _ i = 0 := c
    rw [decide_eq_false c] at H
    refine mz_WP.run 80 rfl ?_
    exact mz_WP.zret rfl rfl (Or.inl rfl) H
  · have c : gY g _ i = 0 := Classical.byContradiction c
    rw [decide_eq_true c] at H
    refine mz_WP.run 80 rfl ?_
    refine mz_WP.run 80 rfl ?_
    exact mz_WP.zret rfl rfl (Or.inr rfl) H
def fndI (f : Nat → Int32) (x : Int32) (k : Nat) : Int32 := match fnd f x k with
  | some p => nI p
  | none => NN
theorem fndI_s {f : Nat → Int32} {x : Int32} {k : Nat} : fndI f x (k + 1) = if f k = x then nI k else fndI f x k := by
  unfold fndI
  show (match (if f k = x then some k else fnd f x k) with
    | some p => nI p
    | none => NN) = _
  by_cases hh : f k = x
  · rw [if_pos hh, if_pos hh]
  · rw [if_neg hh, if_neg hh]
theorem m_tapAt {c k : Nat} {v : Int32} (ho : h 186 = mo r j) (hg : h 187 = .inl (0, 423, g)) (hc : c < 4) (hk : k ≤ 48) (hgk : g (384 + c) = nI k) (H : Q (some (.int (fndI (gm g c) v k))) n h) : mz_wc (e + 2) 127 [.ref 186, .int (nI c), .int v] n h Q := by
  refine mz_wc.enter (code := co_X11_tapAt) (idx := 127) rfl rfl (Nat.le_of_ble_eq_true rfl) rfl rfl ?_
  refine mz_WP.run 4 rfl ?_
  have loop : ∀ q i, i + q = k → mz_WP (mz_wc (e + 1)) (e + 1) 1 co_X11_tapAt Q 6 [some (.ref 186), some (.int (nI c)), some (.int v), some (.int (fndI (gm g c) v i)), some (.int (nI i))] [] n h 0 0 := by
    intro q
    induction q with
    | zero =>
      intro i hi
      have hi : i = k := by omega
      subst hi
      refine mz_WP.run 80 rfl ?_
      refine mz_WP.getf rfl (ho) rfl (Nat.le_of_ble_eq_true rfl) ?_
      refine mz_WP.run 80 rfl ?_
      refine mz_WP.alN rfl hg (nI_add _ _) (by omega) (by decide) ?_
      rw [hgk]
      refine mz_WP.icmp rfl (fun cc => ?_) (fun cc => ?_)
      · refine mz_WP.run 80 rfl ?_
        exact mz_WP.ret rfl rfl H
      · exact absurd (nI_le (Nat.le_refl _) (by omega)) cc
    | succ q ih =>
      intro i hi
      refine mz_WP.run 80 rfl ?_
      refine mz_WP.getf rfl (ho) rfl (Nat.le_of_ble_eq_true rfl) ?_
      refine mz_WP.run 80 rfl ?_
      refine mz_WP.alN rfl hg (nI_add _ _) (by omega) (by decide) ?_
      rw [hgk]
      refine mz_WP.icmp rfl (fun cc => ?_) (fun cc => ?_)
      · exact absurd cc (nI_ge (by omega) (by omega))
      · refine mz_WP.run 80 rfl ?_
        refine mz_WP.cv rfl rfl (Nat.le_of_ble_eq_true rfl) rfl (ho) rfl (m_when ho hg hc (by omega) ?_)
        refine mz_WP.run 80 rfl ?_
        have nx := ih (i + 1) (by omega)
        rw [nI_succ, fndI_s] at nx
        refine mz_WP.icmp rfl (fun c2 => ?_) (fun c2 => ?_)
        · have c2 : ¬ gm g c i = v := c2
          rw [if_neg c2] at nx
          refine mz_WP.run 80 rfl ?_
          exact nx
        · have c2 : gm g c i = v := Classical.byContradiction c2
          rw [if_pos c2] at nx
          refine mz_WP.run 80 rfl ?_
          refine mz_WP.run 80 rfl ?_
          exact nx
  exact loop k 0 (by omega)
theorem fndI_neg {f : Nat → Int32} {x : Int32} {k : Nat} (hk : k ≤ 48) : fndI f x k < 0 ↔ fnd f x k = none := by
  unfold fndI
  cases hf : fnd f x k with
  | none => exact ⟨fun _ => rfl, fun _ => (by decide : NN < 0)⟩
  | some p => exact ⟨fun z => absurd z (nI_pos (by have := (fnd_lt hf).1; omega)), fun z => by cases z⟩
end MT
