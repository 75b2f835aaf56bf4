/-! the class: tap, untap, told -/
def fnd (f : Nat → Int32) (x : Int32) : Nat → Option Nat
  | 0 => none
  | k + 1 => if f k = x then some k else fnd f x k
theorem fnd_n {f : Nat → Int32} {x : Int32} : ∀ {k : Nat}, (∀ j, j < k → f j ≠ x) → fnd f x k = none
  | 0, _ => rfl
  | k + 1, h => by
    show (if f k = x then some k else fnd f x k) = none
    rw [if_neg (h k (by omega)), fnd_n (fun j hj => h j (by omega))]
theorem fnd_s {f : Nat → Int32} {x : Int32} : ∀ {k j : Nat}, j < k → f j = x → (∀ i, i < k → i ≠ j → f i ≠ x) → fnd f x k = some j
  | 0, _, h, _, _ => by omega
  | k + 1, j, h, hj, hu => by
    show (if f k = x then some k else fnd f x k) = some j
    by_cases e : j = k
    · subst e
      rw [if_pos hj]
    · rw [if_neg (hu k (by omega) (by omega)), fnd_s (by omega) hj (fun i hi hne => hu i (by omega) hne)]
theorem fnd_lt {f : Nat → Int32} {x : Int32} : ∀ {k j : Nat}, fnd f x k = some j → j < k ∧ f j = x
  | 0, _, h => by cases h
  | k + 1, j, h => by
    have h : (if f k = x then some k else fnd f x k) = some j := h
    by_cases e : f k = x
    · rw [if_pos e] at h
      cases h
      exact ⟨by omega, e⟩
    · rw [if_neg e] at h
      have := fnd_lt h
      exact ⟨by omega, this.2⟩
theorem fnd_no {f : Nat → Int32} {x : Int32} : ∀ {k : Nat}, fnd f x k = none → ∀ j, j < k → f j ≠ x
  | 0, _, j, hj => by omega
  | k + 1, h, j, hj => by
    have h : (if f k = x then some k else fnd f x k) = none := h
    by_cases e : f k = x
    · rw [if_pos e] at h
      cases h
    · rw [if_neg e] at h
      by_cases ej : j = k
      · subst ej
        exact e
      · exact fnd_no h j (by omega)
def ipos (f : Nat → Int32) (x : Int32) : Nat → Nat
  | 0 => 0
  | p + 1 => if f p ≤ x then p + 1 else ipos f x p
theorem ipos_eq {f : Nat → Int32} {x : Int32} : ∀ {k p : Nat}, p ≤ k → (∀ j, p ≤ j → j < k → x < f j) → (p = 0 ∨ f (p - 1) ≤ x) → p = ipos f x k
  | 0, p, h, _, _ => by
    show p = 0
    omega
  | k + 1, p, h, h1, h2 => by
    show p = if f k ≤ x then k + 1 else ipos f x k
    by_cases e : p = k + 1
    · subst e
      rcases h2 with z | z
      · omega
      · rw [if_pos (show f k ≤ x from z)]
    · rw [if_neg (Int32.not_le.mpr (h1 k (by omega) (by omega)))]
      exact ipos_eq (by omega) (fun j a b => h1 j a (by omega)) h2
theorem ipos_le {f : Nat → Int32} {x : Int32} : ∀ {k : Nat}, ipos f x k ≤ k
  | 0 => Nat.le_refl 0
  | k + 1 => by
    show (if f k ≤ x then k + 1 else ipos f x k) ≤ k + 1
    split
    · exact Nat.le_refl _
    · exact Nat.le_succ_of_le ipos_le
/-- card c's part of g becomes: count, moments, wheres -/
def setG (g : Nat → Int32) (c : Nat) (z : Int32) (m w : Nat → Int32) : Nat → Int32 := fun a => if a = 384 + c then z else if 48 * c ≤ a ∧ a < 48 * c + 48 then m (a - 48 * c) else if 192 + 48 * c ≤ a ∧ a < 192 + 48 * c + 48 then w (a - (192 + 48 * c)) else g a
def addG (g : Nat → Int32) (c : Nat) (x y : Int32) : Nat → Int32 := setG g c (nI (kOf g c + 1)) (insf (gm g c) (kOf g c) (ipos (gm g c) x (kOf g c)) x) (insf (gw g c) (kOf g c) (ipos (gm g c) x (kOf g c)) y)
def rmG (g : Nat → Int32) (c p : Nat) : Nat → Int32 := setG g c (nI (kOf g c - 1)) (rmf (gm g c) (kOf g c) p) (rmf (gw g c) (kOf g c) p)
theorem setG_k {g : Nat → Int32} {c : Nat} {z : Int32} {m w : Nat → Int32} : setG g c z m w (384 + c) = z := if_pos rfl
theorem setG_m {g : Nat → Int32} {c : Nat} {z : Int32} {m w : Nat → Int32} (hc : c < 4) {j : Nat} (hj : j < 48) : gm (setG g c z m w) c j = m j := by
  unfold gm setG
  rw [if_neg (by omega), if_pos (by omega), show 48 * c + j - 48 * c = j by omega]
theorem setG_w {g : Nat → Int32} {c : Nat} {z : Int32} {m w : Nat → Int32} (hc : c < 4) {j : Nat} (hj : j < 48) : gw (setG g c z m w) c j = w j := by
  unfold gw setG
  rw [if_neg (by omega), if_neg (by omega), if_pos (by omega), show 192 + 48 * c + j - (192 + 48 * c) = j by omega]
theorem setG_o {g : Nat → Int32} {c : Nat} {z : Int32} {m w : Nat → Int32} (hc : c < 4) {a : Nat} (ha : 388 ≤ a) : setG g c z m w a = g a := by
  unfold setG
  rw [if_neg (by omega), if_neg (by omega), if_neg (by omega)]
theorem setG_c {g : Nat → Int32} {c c' : Nat} {z : Int32} {m w : Nat → Int32} (hc : c < 4) (hc' : c' < 4) (hne : c' ≠ c) : setG g c z m w (384 + c') = g (384 + c') ∧ (∀ j, j < 48 → gm (setG g c z m w) c' j = gm g c' j) ∧ (∀ j, j < 48 → gw (setG g c z m w) c' j = gw g c' j) := by
  refine ⟨?_, fun j hj => ?_, fun j hj => ?_⟩
  · unfold setG
    rw [if_neg (by omega), if_neg (by omega), if_neg (by omega)]
  · unfold gm setG
    rw [if_neg (by omega), if_neg (by omega), if_neg (by omega)]
  · unfold gw setG
    rw [if_neg (by omega), if_neg (by omega), if_neg (by omega)]
/-- the same, for the class' three rows -/
def cardR (g g' : Nat → Int32) (c : Nat) : Prop := g' (384 + c) = g (384 + c) ∧ (∀ j, j < 48 → gm g' c j = gm g c j) ∧ (∀ j, j < 48 → gw g' c j = gw g c j)
theorem WFc.card {g g' : Nat → Int32} {c k : Nat} (W : WFc g c k) (h : cardR g g' c) : WFc g' c k := by
  obtain ⟨w1, w2, w3, w4, w5⟩ := W
  exact ⟨w1, h.1.trans w2, fun j hj => by rw [h.2.1 j (by omega)]; exact w3 j hj, fun j hj => by rw [h.2.2 j (by omega)]; exact w4 j hj, fun i j hi hj => by rw [h.2.1 i (by omega), h.2.1 j (by omega)]; exact w5 i j hi hj⟩
theorem RepT.card {h : mz_H} {t : Nat} {g g' : Nat → Int32} {c k : Nat} (R : RepT h t g c k) (hk : k ≤ 48) (hh : cardR g g' c) : RepT h t g' c k := by
  obtain ⟨m, s, w, T, r⟩ := R
  refine ⟨m, s, w, T, fun j hj => ?_⟩
  obtain ⟨r1, r2, r3⟩ := r j hj
  refine ⟨by rw [hh.2.1 j (by omega)]; exact r1, ?_, ?_⟩
  · rw [r2]
    unfold gS
    rw [hh.2.2 j (by omega)]
  · rw [r3]
    unfold gY
    rw [hh.2.2 j (by omega)]
theorem WFc.add {g : Nat → Int32} {c k : Nat} (W : WFc g c k) (hc : c < 4) (hk : k < 48) {x st wy : Nat} (hx : x < 40320) (hs : st < 8) (hw : wy < 2) (hn : ∀ j, j < k → gm g c j ≠ nI x) : WFc (addG g c (nI x) (nI (2 * st + wy))) c (k + 1) := by
  have hkk := W.k
  obtain ⟨w1, w2, w3, w4, w5⟩ := W
  have hp := ipos_le (f := gm g c) (x := nI x) (k := k)
  unfold addG
  rw [hkk]
  generalize ipos (gm g c) (nI x) k = p at hp
  refine ⟨by omega, setG_k, fun j hj => ?_, fun j hj => ?_, fun i j hij hj => ?_⟩
  · rw [setG_m hc (by omega)]
    unfold insf
    split
    · exact ⟨x, hx, rfl⟩
    · split
      · exact w3 (j - 1) (by omega)
      · exact w3 j (by omega)
  · rw [setG_w hc (by omega)]
    unfold insf
    split
    · exact ⟨st, wy, hs, hw, rfl⟩
    · split
      · exact w4 (j - 1) (by omega)
      · exact w4 j (by omega)
  · rw [setG_m hc (by omega), setG_m hc (by omega)]
    unfold insf
    by_cases i1 : i = p
    · rw [if_pos i1, if_neg (by omega), if_pos (by omega)]
      exact (hn (j - 1) (by omega)).symm
    · rw [if_neg i1]
      by_cases j1 : j = p
      · rw [if_pos j1, if_neg (by omega)]
        exact hn i (by omega)
      · rw [if_neg j1]
        by_cases i2 : p < i ∧ i ≤ k
        · rw [if_pos i2, if_pos (by omega)]
          exact w5 (i - 1) (j - 1) (by omega) (by omega)
        · rw [if_neg i2]
          by_cases j2 : p < j ∧ j ≤ k
          · rw [if_pos j2]
            exact w5 i (j - 1) (by omega) (by omega)
          · rw [if_neg j2]
            exact w5 i j hij (by omega)
theorem WFc.rm {g : Nat → Int32} {c k p : Nat} (W : WFc g c k) (hc : c < 4) (hp : p < k) : WFc (rmG g c p) c (k - 1) := by
  have hkk := W.k
  obtain ⟨w1, w2, w3, w4, w5⟩ := W
  unfold rmG
  rw [hkk]
  refine ⟨by omega, setG_k, fun j hj => ?_, fun j hj => ?_, fun i j hij hj => ?_⟩
  · rw [setG_m hc (by omega)]
    unfold rmf
    split
    · exact w3 (j + 1) (by omega)
    · exact w3 j (by omega)
  · rw [setG_w hc (by omega)]
    unfold rmf
    split
    · exact w4 (j + 1) (by omega)
    · exact w4 j (by omega)
  · rw [setG_m hc (by omega), setG_m hc (by omega)]
    unfold rmf
    by_cases i1 : p ≤ i ∧ i + 1 < k
    · rw [if_pos i1, if_pos (by omega)]
      exact w5 (i + 1) (j + 1) (by omega) (by omega)
    · rw [if_neg i1]
      by_cases j1 : p ≤ j ∧ j + 1 < k
      · rw [if_pos j1]
        exact w5 i (j + 1) (by omega) (by omega)
      · rw [if_neg j1]
        exact w5 i j hij (by omega)
theorem WF.setG {g : Nat → Int32} {c : Nat} {z : Int32} {m w : Nat → Int32} (W : WF g) (hc : c < 4) {k : Nat} (Wc : WFc (setG g c z m w) c k) : WF (setG g c z m w) := by
  obtain ⟨w1, w2, w3, w4⟩ := W
  refine ⟨fun c' hc' => ?_, fun i hi => ?_, ?_, fun r hr => ?_⟩
  · by_cases e : c' = c
    · subst e
      exact ⟨k, Wc⟩
    · obtain ⟨k', W'⟩ := w1 c' hc'
      exact ⟨k', W'.card (setG_c hc hc' e)⟩
  · rw [setG_o hc (by omega)]
    exact w2 i hi
  · rw [setG_o hc (by omega)]
    exact w3
  · rw [setG_o hc (by omega)]
    exact w4 r hr
/-- the taps of card c in place of those that were -/
theorem CI.card {h : mz_H} {g : Nat → Int32} {kp : Nat} {gi : Nat → Nat → Int32} (C : CI h g kp gi) {c k : Nat} (hc : c < 4) {z : Int32} {m w : Nat → Int32} {m1 s1 w1 : Nat → Int32} (F : tpF h (3 + 1 + 7 * c)) (Wc : WFc (setG g c z m w) c k) (hr : ∀ j, j < k → m1 j = gm (setG g c z m w) c j ∧ s1 j = gS (setG g c z m w) c j ∧ w1 j = gY (setG g c z m w) c j) : CI (tpH h (3 + 1 + 7 * c) (nI k) m1 s1 w1) (setG g c z m w) kp gi := by
  obtain ⟨F0, B, h2, W, R, -⟩ := id C
  have out : ∀ b, (b < 3 + 1 + 7 * c ∨ 3 + 1 + 7 * c + 6 < b) → tpH h (3 + 1 + 7 * c) (nI k) m1 s1 w1 b = h b := fun b hb => tp_n (by omega) (by omega) (by omega) (by omega)
  refine C.now (fun b hb => out b (by omega)) (fun a x hx => ?_) (W.setG hc Wc) ⟨fun c' hc' => ?_, ?_, ?_⟩
  · have hne : ∀ q, fxt q = none → a ≠ q := fun q hq e => by rw [e, hq] at hx; cases hx
    have f4 : ∀ c, c < 4 → fxt (3 + 1 + 7 * c) = none ∧ fxt (3 + 1 + 7 * c + 2) = none ∧ fxt (3 + 1 + 7 * c + 4) = none ∧ fxt (3 + 1 + 7 * c + 6) = none := by
      intro c hc
      rcases (show c = 0 ∨ c = 1 ∨ c = 2 ∨ c = 3 by omega) with rfl | rfl | rfl | rfl <;> exact ⟨rfl, rfl, rfl, rfl⟩
    obtain ⟨f0, f2, f4, f6⟩ := f4 c hc
    rw [tp_n (hne _ f0) (hne _ f2) (hne _ f4) (hne _ f6)]
    exact F0 a x hx
  · by_cases e : c' = c
    · subst e
      exact ⟨k, Wc, m1, s1, w1, TA.tp F, hr⟩
    · obtain ⟨k', W', RT⟩ := R.1 c' hc'
      exact ⟨k', W'.card (setG_c hc hc' e), (RT.to (fun b h1 h2 => out b (by omega))).card W'.1 (setG_c hc hc' e)⟩
  · exact (R.2.1.to (fun b h1 h2 => out b (by omega))).gg (fun q h1 h2 => setG_o hc (by omega))
  · exact (R.2.2.to (fun b h1 h2 => out b (by omega))).gg (fun q h1 h2 => setG_o hc (by omega))
