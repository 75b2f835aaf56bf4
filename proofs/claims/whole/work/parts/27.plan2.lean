/-! Plan: the weeks of the best plan -/
def wks (bg : Nat → Bool) : Nat → Nat → List Nat
  | 0, _ => []
  | k + 1, d => if d < 28 then (if bg d = true then d :: wks bg k (d + 7) else wks bg k (d + 1)) else []
theorem wks_fuel (bg : Nat → Bool) : ∀ k k' d, 28 ≤ d + k → 28 ≤ d + k' → wks bg k d = wks bg k' d
  | 0, 0, _, _, _ => rfl
  | 0, k' + 1, d, h, _ => by
    show [] = if d < 28 then _ else []
    rw [if_neg (by omega)]
  | k + 1, 0, d, _, h => by
    show (if d < 28 then _ else []) = []
    rw [if_neg (by omega)]
  | k + 1, k' + 1, d, h, h' => by
    show (if d < 28 then (if bg d = true then d :: wks bg k (d + 7) else wks bg k (d + 1)) else []) = (if d < 28 then (if bg d = true then d :: wks bg k' (d + 7) else wks bg k' (d + 1)) else [])
    rw [wks_fuel bg k k' (d + 7) (by omega) (by omega), wks_fuel bg k k' (d + 1) (by omega) (by omega)]
def wkd (bg : Nat → Bool) (d : Nat) : List Nat := wks bg (28 - d) d
theorem wkd_e {bg : Nat → Bool} {d : Nat} (h : 28 ≤ d) : wkd bg d = [] := by
  unfold wkd
  rw [show 28 - d = 0 by omega]
  rfl
theorem wkd_b {bg : Nat → Bool} {d : Nat} (h : d < 28) (hb : bg d = true) : wkd bg d = d :: wkd bg (d + 7) := by
  unfold wkd
  rw [show 28 - d = (27 - d) + 1 by omega]
  show (if d < 28 then (if bg d = true then d :: wks bg (27 - d) (d + 7) else _) else []) = _
  rw [if_pos h, if_pos hb, wks_fuel bg (27 - d) (28 - (d + 7)) (d + 7) (by omega) (by omega)]
theorem wkd_n {bg : Nat → Bool} {d : Nat} (h : d < 28) (hb : bg d = false) : wkd bg d = wkd bg (d + 1) := by
  unfold wkd
  rw [show 28 - d = (27 - d) + 1 by omega]
  show (if d < 28 then (if bg d = true then _ else wks bg (27 - d) (d + 1)) else []) = _
  rw [if_pos h, if_neg (by rw [hb]; decide), wks_fuel bg (27 - d) (28 - (d + 1)) (d + 1) (by omega) (by omega)]
theorem wkd_ge {bg : Nat → Bool} : ∀ (k d : Nat), d + k = 28 → ∀ s ∈ wkd bg d, d ≤ s ∧ s < 28 := by
  intro k
  induction k using Nat.strongRecOn with
  | _ k ih =>
    intro d hk s hs
    cases k with
    | zero =>
      rw [wkd_e (by omega)] at hs
      cases hs
    | succ k =>
      cases hb : bg d with
      | true =>
        rw [wkd_b (by omega) hb] at hs
        rcases List.mem_cons.mp hs with z | z
        · omega
        · by_cases h7 : d + 7 ≤ 28
          · have := ih (28 - (d + 7)) (by omega) (d + 7) (by omega) s z
            omega
          · rw [wkd_e (by omega)] at z
            cases z
      | false =>
        rw [wkd_n (by omega) hb] at hs
        have := ih k (by omega) (d + 1) (by omega) s hs
        omega
theorem wkd_len {bg : Nat → Bool} (h21 : ∀ d, bg d = true → d ≤ 21) : ∀ (k d : Nat), d + k = 28 → (wkd bg d).length * 7 ≤ k := by
  intro k
  induction k using Nat.strongRecOn with
  | _ k ih =>
    intro d hk
    cases k with
    | zero =>
      rw [wkd_e (by omega)]
      exact Nat.le_refl 0
    | succ k =>
      cases hb : bg d with
      | true =>
        rw [wkd_b (by omega) hb, List.length_cons]
        have := h21 d hb
        have := ih (28 - (d + 7)) (by omega) (d + 7) (by omega)
        omega
      | false =>
        rw [wkd_n (by omega) hb]
        have := ih k (by omega) (d + 1) (by omega)
        omega
def inS (S : List Nat) (j : Nat) : Bool := S.any (fun s => decide (s ≤ j) && decide (j < s + 7))
theorem inS_iff {S : List Nat} {j : Nat} : inS S j = true ↔ ∃ s, s ∈ S ∧ s ≤ j ∧ j < s + 7 := by
  unfold inS
  rw [List.any_eq_true]
  constructor
  · intro ⟨s, h1, h2⟩
    simp only [Bool.and_eq_true, decide_eq_true_eq] at h2
    exact ⟨s, h1, h2.1, h2.2⟩
  · intro ⟨s, h1, h2, h3⟩
    exact ⟨s, h1, by simp only [Bool.and_eq_true, decide_eq_true_eq]; exact ⟨h2, h3⟩⟩
/-- the values of a day -/
def dpv (ow wk : Nat → Int32) (d : Nat) : Dpv := (dpl ow wk (28 - d)).getD 0 (0, 0, false)
theorem dpl_at (ow wk : Nat → Int32) : ∀ (s r : Nat), (dpl ow wk (r + s)).getD s (0, 0, false) = (dpl ow wk r).getD 0 (0, 0, false)
  | 0, r => rfl
  | s + 1, r => by
    have := dpl_at ow wk s r
    rw [← this]
    rfl
theorem dpv_28 {ow wk : Nat → Int32} : dpv ow wk 28 = (0, 0, false) := rfl
theorem dpv_s {ow wk : Nat → Int32} {d : Nat} (hd : d < 28) : dpv ow wk d = dstep (ow d) (wk d) (decide (d ≤ 21)) (dpv ow wk (d + 1)) (dpv ow wk (d + 7)) := by
  unfold dpv
  have e1 : dpl ow wk (28 - d) = dstep (ow (27 - (27 - d))) (wk (27 - (27 - d))) (decide (6 ≤ 27 - d)) ((dpl ow wk (27 - d)).getD 0 (0, 0, false)) ((dpl ow wk (27 - d)).getD 6 (0, 0, false)) :: dpl ow wk (27 - d) := by
    rw [show 28 - d = 27 - d + 1 by omega]
    rfl
  rw [e1]
  show dstep _ _ _ _ _ = _
  rw [show 27 - (27 - d) = d by omega, show 28 - (d + 1) = 27 - d by omega]
  by_cases h21 : d ≤ 21
  · rw [show 27 - d = (28 - (d + 7)) + 6 by omega, dpl_at, show (28 - (d + 7)) + 6 = 27 - d by omega, decide_eq_true (show 6 ≤ 27 - d by omega), decide_eq_true h21]
  · rw [decide_eq_false (show ¬ 6 ≤ 27 - d by omega), decide_eq_false h21]
    unfold dstep
    rw [if_neg (fun z => absurd z.1 (by decide)), if_neg (fun z => absurd z.1 (by decide))]
def bgn (ow wk : Nat → Int32) (d : Nat) : Bool := if d < 28 then (dpv ow wk d).2.2 else false
theorem bgn_21 {ow wk : Nat → Int32} {d : Nat} (h : bgn ow wk d = true) : d ≤ 21 := by
  unfold bgn at h
  split at h
  · rename_i hd
    rw [dpv_s hd] at h
    unfold dstep at h
    split at h
    · rename_i hz
      exact of_decide_eq_true hz.1
    · exact absurd (show false = true from h) (by decide)
  · exact absurd h (by decide)
theorem dpv_weeks {ow wk : Nat → Int32} : ∀ (k d : Nat), d + k = 28 → (dpv ow wk d).2.1 = nI (wkd (bgn ow wk) d).length := by
  intro k
  induction k using Nat.strongRecOn with
  | _ k ih =>
    intro d hk
    cases k with
    | zero =>
      have : d = 28 := by omega
      subst this
      rw [wkd_e (by omega)]
      rfl
    | succ k =>
      have hd : d < 28 := by omega
      have hbd : bgn ow wk d = (dpv ow wk d).2.2 := if_pos hd
      cases hb : bgn ow wk d with
      | true =>
        have h21 := bgn_21 hb
        rw [wkd_b hd hb, List.length_cons, Nat.add_comm, ← nI_add, ← ih (28 - (d + 7)) (by omega) (d + 7) (by omega)]
        rw [hbd, dpv_s hd] at hb
        rw [dpv_s hd]
        unfold dstep at hb ⊢
        split
        · rfl
        · rename_i hz
          rw [if_neg hz] at hb
          exact absurd (show false = true from hb) (by decide)
      | false =>
        rw [wkd_n hd hb, ← ih k (by omega) (d + 1) (by omega)]
        rw [hbd, dpv_s hd] at hb
        rw [dpv_s hd]
        unfold dstep at hb ⊢
        split
        · rename_i hz
          rw [if_pos hz] at hb
          exact absurd (show true = false from hb) (by decide)
        · rfl
theorem wkd_4 {ow wk : Nat → Int32} : (wkd (bgn ow wk) 0).length ≤ 4 := by
  have := wkd_len (bg := bgn ow wk) (fun d h => bgn_21 h) 28 0 rfl
  omega
