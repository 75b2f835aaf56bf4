/-! the reference: journeys, what is pure -/
def jbeg (l : List Rde) (f : Nat) : Int32 := match l[f]? with
  | some r => r.2.2.2.1
  | none => 0
def jseg (zn : Int32 → Int32) (l : List Rde) (f : Nat) : Nat → Jrn
  | 0 => (jbeg l f, 0, 5, 1)
  | c + 1 => match l[f + c]? with
    | some r => jtake zn r (jseg zn l f c)
    | none => jseg zn l f c
theorem jseg_s {zn : Int32 → Int32} {l : List Rde} {f c : Nat} {r : Rde} (h : l[f + c]? = some r) : jseg zn l f (c + 1) = jtake zn r (jseg zn l f c) := by
  show (match l[f + c]? with
    | some r => jtake zn r (jseg zn l f c)
    | none => jseg zn l f c) = _
  rw [h]
theorem jseg_1 {zn : Int32 → Int32} {l : List Rde} {f : Nat} : ∀ c, (jseg zn l f c).1 = jbeg l f
  | 0 => rfl
  | c + 1 => by
    have ih := jseg_1 (zn := zn) (l := l) (f := f) c
    show (match l[f + c]? with
      | some r => jtake zn r (jseg zn l f c)
      | none => jseg zn l f c).1 = _
    split
    · exact ih
    · exact ih
theorem zmin_n {a b : Nat} (ha : a < 2 ^ 31) (hb : b < 2 ^ 31) : zmin (nI a) (nI b) = nI (min a b) := by
  unfold zmin
  by_cases h : b < a
  · rw [if_pos (nI_lt h ha), show min a b = b by omega]
  · rw [if_neg (nI_nlt (by omega) hb), show min a b = a by omega]
theorem zmax_n {a b : Nat} (ha : a < 2 ^ 31) (hb : b < 2 ^ 31) : zmax (nI a) (nI b) = nI (max a b) := by
  unfold zmax
  by_cases h : a < b
  · rw [if_pos (nI_lt h hb), show max a b = b by omega]
  · rw [if_neg (nI_nlt (by omega) ha), show max a b = a by omega]
theorem nI5 : nI 5 = 5 := by decide
def znP (zn : Int32 → Int32) : Prop := ∀ s, s < 8 → ∃ z, 1 ≤ z ∧ z ≤ 5 ∧ zn (nI s) = nI z
theorem RP.st {r : Rde} (h : RP r) (hl : lameB r.2.1 r.2.2.1 = false) : ∃ a b, a < 8 ∧ b < 8 ∧ r.2.1 = nI a ∧ r.2.2.1 = nI b := by
  unfold lameB at hl
  obtain ⟨h1, h2, -⟩ := h
  rcases h1 with h1 | ⟨a, ha, h1⟩
  · rw [decide_eq_true h1] at hl
    cases hl
  · rcases h2 with h2 | ⟨b, hb, h2⟩
    · rw [decide_eq_true h2, Bool.or_true] at hl
      cases hl
    · exact ⟨a, b, ha, hb, h1, h2⟩
theorem zones_P {zn : Int32 → Int32} (hz : znP zn) {r : Rde} (h : RP r) : ∃ a b, 1 ≤ a ∧ a ≤ 5 ∧ 1 ≤ b ∧ b ≤ 5 ∧ zoneA zn r = nI a ∧ zoneZ zn r = nI b ∧ (lameB r.2.1 r.2.2.1 = true → a = 1 ∧ b = 5) := by
  unfold zoneA zoneZ
  cases hl : lameB r.2.1 r.2.2.1 with
  | true =>
    refine ⟨1, 5, by omega, by omega, by omega, by omega, ?_, ?_, fun _ => ⟨rfl, rfl⟩⟩
    · rw [if_pos rfl, nI1]
    · rw [if_pos rfl, nI5]
  | false =>
    obtain ⟨a, b, ha, hb, e1, e2⟩ := h.st hl
    obtain ⟨x, x1, x2, x3⟩ := hz a ha
    obtain ⟨y, y1, y2, y3⟩ := hz b hb
    refine ⟨x, y, x1, x2, y1, y2, ?_, ?_, fun z => by cases z⟩
    · rw [if_neg (by decide), e1, x3]
    · rw [if_neg (by decide), e2, y3]
theorem jseg_P {zn : Int32 → Int32} (hz : znP zn) {l : List Rde} (hl : ∀ r ∈ l, RP r) {f : Nat} : ∀ c, f + c ≤ l.length → ∃ a b, (jseg zn l f c).2.1 = c ∧ (jseg zn l f c).2.2 = (nI a, nI b) ∧ 1 ≤ a ∧ a ≤ 5 ∧ 1 ≤ b ∧ b ≤ 5 ∧ (1 ≤ c → a ≤ b) ∧ ((∃ i r, i < c ∧ l[f + i]? = some r ∧ lameB r.2.1 r.2.2.1 = true) → a = 1 ∧ b = 5)
  | 0, _ => ⟨5, 1, rfl, by rw [nI1, nI5]; rfl, by omega, by omega, by omega, by omega, fun h => by omega, fun ⟨i, _, hi, _⟩ => by omega⟩
  | c + 1, hc => by
    obtain ⟨a, b, e0, e1, a1, a2, b1, b2, ab, lam⟩ := jseg_P hz hl (f := f) c (by omega)
    obtain ⟨r, hr⟩ := geti (show f + c < l.length by omega)
    obtain ⟨x, y, x1, x2, y1, y2, x3, y3, xy⟩ := zones_P hz (hl r (List.mem_of_getElem? hr))
    rw [jseg_s hr]
    refine ⟨min (min a x) y, max (max b x) y, ?_, ?_, by omega, by omega, by omega, by omega, fun _ => by omega, fun ⟨i, r', hi, hr', hlm⟩ => ?_⟩
    · show (jseg zn l f c).2.1 + 1 = c + 1
      rw [e0]
    · show (zmin (zmin (jseg zn l f c).2.2.1 (zoneA zn r)) (zoneZ zn r), zmax (zmax (jseg zn l f c).2.2.2 (zoneA zn r)) (zoneZ zn r)) = _
      rw [e1, x3, y3]
      dsimp only
      rw [zmin_n (by omega) (by omega), zmin_n (by omega) (by omega), zmax_n (by omega) (by omega), zmax_n (by omega) (by omega)]
    · by_cases hic : i < c
      · obtain ⟨q1, q2⟩ := lam ⟨i, r', hic, hr', hlm⟩
        omega
      · have : i = c := by omega
        subst this
        rw [hr] at hr'
        cases hr'
        obtain ⟨q1, q2⟩ := xy hlm
        omega
theorem jseg_w {zn : Int32 → Int32} (hz : znP zn) {l : List Rde} (hl : ∀ r ∈ l, RP r) {f c : Nat} (hc : f + c ≤ l.length) (h1 : 1 ≤ c) : ∃ w, 1 ≤ w ∧ w ≤ 5 ∧ jwid (jseg zn l f c) = nI w ∧ ((∃ i r, i < c ∧ l[f + i]? = some r ∧ lameB r.2.1 r.2.2.1 = true) → w = 5) := by
  obtain ⟨a, b, e0, e1, a1, a2, b1, b2, ab, lam⟩ := jseg_P hz hl (f := f) c hc
  have ab := ab h1
  refine ⟨b - a + 1, by omega, by omega, ?_, fun h => by obtain ⟨q1, q2⟩ := lam h; omega⟩
  unfold jwid
  rw [e1]
  dsimp only
  rw [pk_sub ab, nI_add]
/-- firsts and lengths after i rides -/
def JM (zn : Int32 → Int32) (l : List Rde) (i : Nat) (J : List Jrn) (fi le : Nat → Int32) : Prop := ∀ j q, J[j]? = some q → ∃ f, fi j = nI f ∧ le j = nI q.2.1 ∧ 1 ≤ q.2.1 ∧ f + q.2.1 ≤ i ∧ (j + 1 = J.length → f + q.2.1 = i) ∧ q = jseg zn l f q.2.1
theorem JM.app {zn : Int32 → Int32} {l : List Rde} {i : Nat} {J : List Jrn} {fi le : Nat → Int32} (M : JM zn l i J fi le) {r : Rde} (hr : l[i]? = some r) {c : Nat} (hc : J.length = c) : JM zn l (i + 1) (J ++ [jtake zn r (r.2.2.2.1, 0, 5, 1)]) (upd fi c (nI i)) (upd le c (nI 1)) := by
  intro j q hq
  by_cases hj : j < J.length
  · rw [List.getElem?_append_left hj] at hq
    obtain ⟨f, a1, a2, a3, a4, a5, a6⟩ := M j q hq
    have hne : j ≠ c := by omega
    rw [updN hne, updN hne, List.length_append, List.length_singleton]
    exact ⟨f, a1, a2, a3, by omega, fun h => by omega, a6⟩
  · rw [List.getElem?_append_right (by omega)] at hq
    have hz : j - J.length < 1 := (List.getElem?_eq_some_iff.mp hq).1
    have hjc : j = c := by omega
    rw [show j - J.length = 0 by omega] at hq
    cases hq
    subst hjc
    rw [updS, updS]
    refine ⟨i, rfl, rfl, Nat.le_refl _, Nat.le_refl _, fun _ => rfl, ?_⟩
    show jtake zn r (r.2.2.2.1, 0, 5, 1) = jseg zn l i (0 + 1)
    rw [jseg_s (show l[i + 0]? = some r from hr)]
    show _ = jtake zn r (jbeg l i, 0, 5, 1)
    unfold jbeg
    rw [hr]
theorem JM.mod {zn : Int32 → Int32} {l : List Rde} {i : Nat} {J : List Jrn} {fi le : Nat → Int32} (M : JM zn l i J fi le) {r : Rde} (hr : l[i]? = some r) {c : Nat} (hc : J.length = c + 1) : JM zn l (i + 1) (jmod J (jtake zn r)) fi (upd le c (le c + nI 1)) := by
  obtain ⟨p, hp⟩ := geti (show c < J.length by omega)
  obtain ⟨f, b1, b2, b3, b4, b5, b6⟩ := M c p hp
  have b7 := b5 hc.symm
  intro j q hq
  rw [jmod_len]
  unfold jmod at hq
  rw [show J.length - 1 = c by omega, hp] at hq
  dsimp only at hq
  by_cases hj : j = c
  · subst hj
    rw [List.getElem?_set_self (by omega)] at hq
    cases hq
    rw [updS, b2]
    refine ⟨f, b1, nI_add _ _, Nat.le_add_left _ _, ?_, fun _ => ?_, ?_⟩
    · show f + (p.2.1 + 1) ≤ i + 1
      omega
    · show f + (p.2.1 + 1) = i + 1
      omega
    · show jtake zn r p = jseg zn l f (p.2.1 + 1)
      rw [jseg_s (show l[f + p.2.1]? = some r by rw [b7]; exact hr), ← b6]
  · rw [List.getElem?_set_ne (fun z => hj z.symm)] at hq
    obtain ⟨f, a1, a2, a3, a4, a5, a6⟩ := M j q hq
    have hlt := (List.getElem?_eq_some_iff.mp hq).1
    rw [updN hj]
    exact ⟨f, a1, a2, a3, by omega, fun h => by omega, a6⟩
theorem jl_st {near : Int32} {zn : Int32 → Int32} {l : List Rde} {i : Nat} {r : Rde} (hr : l[i]? = some r) : jl near zn l (i + 1) = if goes near l (jl near zn l i) i r = true then jmod (jl near zn l i) (jtake zn r) else jl near zn l i ++ [jtake zn r (r.2.2.2.1, 0, 5, 1)] := by
  show (match l[i]? with
    | none => jl near zn l i
    | some r => if goes near l (jl near zn l i) i r = true then jmod (jl near zn l i) (jtake zn r) else jl near zn l i ++ [jtake zn r (r.2.2.2.1, 0, 5, 1)]) = _
  rw [hr]
theorem goes_J {near : Int32} {l : List Rde} {J : List Jrn} {i : Nat} {r : Rde} (h : goes near l J i r = true) : 1 ≤ J.length ∧ 1 ≤ i := by
  cases i with
  | zero => cases h
  | succ i =>
    cases J with
    | nil => rw [goes_nil] at h; cases h
    | cons a J => exact ⟨Nat.le_add_left _ _, by omega⟩
theorem jl_pos {near : Int32} {zn : Int32 → Int32} {l : List Rde} {i : Nat} (h : i < l.length) : 1 ≤ (jl near zn l (i + 1)).length := by
  obtain ⟨r, hr⟩ := geti h
  rw [jl_st hr]
  split
  · rename_i hg
    rw [jmod_len]
    exact (goes_J hg).1
  · rw [List.length_append, List.length_singleton]
    omega
