/-! the law: its seventeen kinds of call (by program, wip/whole/gen80.py) -/
abbrev lawQ : mz_Q := fun r _ _ => r = some (.int 1)
abbrev lawL (i : Nat) : List (Option Value) := [some (.ref 1), some (.ref 2), some (.ref 186), some (.int (nI i))]
def lawN (L : Nat) (xs : Nat → Int32) (i bc bs : Nat) : Prop := ∀ h g kp gi, CI h g kp gi → MI h g kp gi → h 1 = .inl (0, L, xs) → mz_WP (mz_wc 8) 8 2 co_law lawQ 757 (lawL i) [] 205 h bc bs
section LAW
variable {L i bc bs : Nat} {xs : Nat → Int32} {h : mz_H} {g : Nat → Int32} {kp : Nat} {gi : Nat → Nat → Int32}
set_option maxRecDepth 20000 in
theorem law_zone (hL : L ≤ 3072) (hi : i + 6 ≤ L) (C : CI h g kp gi) (M : MI h g kp gi) (hs : h 1 = .inl (0, L, xs)) (nx : lawN L xs i bc bs) : mz_WP (mz_wc 8) 8 2 co_law lawQ 116 (lawL i) [] 205 h bc bs := by
  have W := C.2.2.2.1
  have hkp := C.2.2.2.2.2.2.2.2.1
  refine mz_WP.run 80 rfl ?_
  refine mz_WP.alN (k := i + 1) rfl hs (nI_add _ _) (by omega) (by omega) ?_
  refine mz_WP.run 80 rfl ?_
  refine mz_WP.alN (k := i + 2) rfl hs (nI_add _ _) (by omega) (by omega) ?_
  refine mz_WP.cv rfl rfl (Nat.le_of_ble_eq_true rfl) rfl (C.2.2.1) rfl (s_zone C (fun h1 C1 o1 => ?_))
  have M1 := M.to (fun b hb => o1 b (by omega))
  have hs1 := (o1 1 (by omega)).trans hs
  obtain ⟨⟨r, j, ho⟩, -⟩ := id M1
  refine mz_WP.run 80 rfl ?_
  refine mz_WP.alN (k := i + 1) rfl hs1 (nI_add _ _) (by omega) (by omega) ?_
  refine mz_WP.run 80 rfl ?_
  refine mz_WP.alN (k := i + 2) rfl hs1 (nI_add _ _) (by omega) (by omega) ?_
  refine mz_WP.cv rfl rfl (Nat.le_of_ble_eq_true rfl) rfl (ho) rfl (m_zone M1 (fun h2 M2 o2 => ?_))
  refine mz_WP.icmp rfl (fun cc => ?_) (fun cc => ?_)
  · exact nx _ _ _ _ (C1.lo o2) M2 ((o2 1 (by omega)).trans hs1)
  · exact absurd rfl cc
set_option maxRecDepth 20000 in
theorem law_price (hL : L ≤ 3072) (hi : i + 6 ≤ L) (C : CI h g kp gi) (M : MI h g kp gi) (hs : h 1 = .inl (0, L, xs)) (nx : lawN L xs i bc bs) : mz_WP (mz_wc 8) 8 2 co_law lawQ 149 (lawL i) [] 205 h bc bs := by
  have W := C.2.2.2.1
  have hkp := C.2.2.2.2.2.2.2.2.1
  refine mz_WP.run 80 rfl ?_
  refine mz_WP.alN (k := i + 1) rfl hs (nI_add _ _) (by omega) (by omega) ?_
  refine mz_WP.run 80 rfl ?_
  refine mz_WP.alN (k := i + 2) rfl hs (nI_add _ _) (by omega) (by omega) ?_
  refine mz_WP.run 80 rfl ?_
  refine mz_WP.alN (k := i + 3) rfl hs (nI_add _ _) (by omega) (by omega) ?_
  refine mz_WP.cv rfl rfl (Nat.le_of_ble_eq_true rfl) rfl (C.2.2.1) rfl (s_price C (fun h1 C1 o1 => ?_))
  have M1 := M.to (fun b hb => o1 b (by omega))
  have hs1 := (o1 1 (by omega)).trans hs
  obtain ⟨⟨r, j, ho⟩, -⟩ := id M1
  refine mz_WP.run 80 rfl ?_
  refine mz_WP.alN (k := i + 1) rfl hs1 (nI_add _ _) (by omega) (by omega) ?_
  refine mz_WP.run 80 rfl ?_
  refine mz_WP.alN (k := i + 2) rfl hs1 (nI_add _ _) (by omega) (by omega) ?_
  refine mz_WP.run 80 rfl ?_
  refine mz_WP.alN (k := i + 3) rfl hs1 (nI_add _ _) (by omega) (by omega) ?_
  refine mz_WP.cv rfl rfl (Nat.le_of_ble_eq_true rfl) rfl (ho) rfl (m_price M1 (fun h2 M2 o2 => ?_))
  refine mz_WP.icmp rfl (fun cc => ?_) (fun cc => ?_)
  · exact nx _ _ _ _ (C1.lo o2) M2 ((o2 1 (by omega)).trans hs1)
  · exact absurd rfl cc
set_option maxRecDepth 20000 in
theorem law_tap (hL : L ≤ 3072) (hi : i + 6 ≤ L) (C : CI h g kp gi) (M : MI h g kp gi) (hs : h 1 = .inl (0, L, xs)) (nx : lawN L xs i bc bs) : mz_WP (mz_wc 8) 8 2 co_law lawQ 192 (lawL i) [] 205 h bc bs := by
  have W := C.2.2.2.1
  have hkp := C.2.2.2.2.2.2.2.2.1
  refine mz_WP.run 80 rfl ?_
  refine mz_WP.alN (k := i + 1) rfl hs (nI_add _ _) (by omega) (by omega) ?_
  refine mz_WP.run 80 rfl ?_
  refine mz_WP.alN (k := i + 2) rfl hs (nI_add _ _) (by omega) (by omega) ?_
  refine mz_WP.run 80 rfl ?_
  refine mz_WP.alN (k := i + 3) rfl hs (nI_add _ _) (by omega) (by omega) ?_
  refine mz_WP.run 80 rfl ?_
  refine mz_WP.alN (k := i + 4) rfl hs (nI_add _ _) (by omega) (by omega) ?_
  refine mz_WP.run 80 rfl ?_
  refine mz_WP.alN (k := i + 5) rfl hs (nI_add _ _) (by omega) (by omega) ?_
  refine mz_WP.cv rfl rfl (Nat.le_of_ble_eq_true rfl) rfl (C.2.2.1) rfl (s_tap C (fun h1 C1 o1 => ?_))
  have M1 := M.to (fun b hb => o1 b (by omega))
  have hs1 := (o1 1 (by omega)).trans hs
  obtain ⟨⟨r, j, ho⟩, -⟩ := id M1
  refine mz_WP.run 80 rfl ?_
  refine mz_WP.alN (k := i + 1) rfl hs1 (nI_add _ _) (by omega) (by omega) ?_
  refine mz_WP.run 80 rfl ?_
  refine mz_WP.alN (k := i + 2) rfl hs1 (nI_add _ _) (by omega) (by omega) ?_
  refine mz_WP.run 80 rfl ?_
  refine mz_WP.alN (k := i + 3) rfl hs1 (nI_add _ _) (by omega) (by omega) ?_
  refine mz_WP.run 80 rfl ?_
  refine mz_WP.alN (k := i + 4) rfl hs1 (nI_add _ _) (by omega) (by omega) ?_
  refine mz_WP.run 80 rfl ?_
  refine mz_WP.alN (k := i + 5) rfl hs1 (nI_add _ _) (by omega) (by omega) ?_
  refine mz_WP.cv rfl rfl (Nat.le_of_ble_eq_true rfl) rfl (ho) rfl (p_tap M1 W (fun h2 M2 o2 => ?_))
  refine mz_WP.icmp rfl (fun cc => ?_) (fun cc => ?_)
  · exact nx _ _ _ _ (C1.lo o2) M2 ((o2 1 (by omega)).trans hs1)
  · exact absurd rfl cc
set_option maxRecDepth 20000 in
theorem law_untap (hL : L ≤ 3072) (hi : i + 6 ≤ L) (C : CI h g kp gi) (M : MI h g kp gi) (hs : h 1 = .inl (0, L, xs)) (nx : lawN L xs i bc bs) : mz_WP (mz_wc 8) 8 2 co_law lawQ 255 (lawL i) [] 205 h bc bs := by
  have W := C.2.2.2.1
  have hkp := C.2.2.2.2.2.2.2.2.1
  refine mz_WP.run 80 rfl ?_
  refine mz_WP.alN (k := i + 1) rfl hs (nI_add _ _) (by omega) (by omega) ?_
  refine mz_WP.run 80 rfl ?_
  refine mz_WP.alN (k := i + 2) rfl hs (nI_add _ _) (by omega) (by omega) ?_
  refine mz_WP.run 80 rfl ?_
  refine mz_WP.alN (k := i + 3) rfl hs (nI_add _ _) (by omega) (by omega) ?_
  refine mz_WP.cv rfl rfl (Nat.le_of_ble_eq_true rfl) rfl (C.2.2.1) rfl (s_untap C (fun h1 C1 o1 => ?_))
  have M1 := M.to (fun b hb => o1 b (by omega))
  have hs1 := (o1 1 (by omega)).trans hs
  obtain ⟨⟨r, j, ho⟩, -⟩ := id M1
  refine mz_WP.run 80 rfl ?_
  refine mz_WP.alN (k := i + 1) rfl hs1 (nI_add _ _) (by omega) (by omega) ?_
  refine mz_WP.run 80 rfl ?_
  refine mz_WP.alN (k := i + 2) rfl hs1 (nI_add _ _) (by omega) (by omega) ?_
  refine mz_WP.run 80 rfl ?_
  refine mz_WP.alN (k := i + 3) rfl hs1 (nI_add _ _) (by omega) (by omega) ?_
  refine mz_WP.cv rfl rfl (Nat.le_of_ble_eq_true rfl) rfl (ho) rfl (p_untap M1 W (fun h2 M2 o2 => ?_))
  refine mz_WP.icmp rfl (fun cc => ?_) (fun cc => ?_)
  · exact nx _ _ _ _ (C1.lo o2) M2 ((o2 1 (by omega)).trans hs1)
  · exact absurd rfl cc
set_option maxRecDepth 20000 in
theorem law_told (hL : L ≤ 3072) (hi : i + 6 ≤ L) (C : CI h g kp gi) (M : MI h g kp gi) (hs : h 1 = .inl (0, L, xs)) (nx : lawN L xs i bc bs) : mz_WP (mz_wc 8) 8 2 co_law lawQ 298 (lawL i) [] 205 h bc bs := by
  have W := C.2.2.2.1
  have hkp := C.2.2.2.2.2.2.2.2.1
  refine mz_WP.run 80 rfl ?_
  refine mz_WP.alN (k := i + 1) rfl hs (nI_add _ _) (by omega) (by omega) ?_
  refine mz_WP.run 80 rfl ?_
  refine mz_WP.alN (k := i + 2) rfl hs (nI_add _ _) (by omega) (by omega) ?_
  refine mz_WP.run 80 rfl ?_
  refine mz_WP.alN (k := i + 3) rfl hs (nI_add _ _) (by omega) (by omega) ?_
  refine mz_WP.cv rfl rfl (Nat.le_of_ble_eq_true rfl) rfl (C.2.2.1) rfl (s_told C ?_)
  have C1 := C
  have M1 := M
  have hs1 := hs
  obtain ⟨⟨r, j, ho⟩, -⟩ := id M1
  refine mz_WP.run 80 rfl ?_
  refine mz_WP.alN (k := i + 1) rfl hs1 (nI_add _ _) (by omega) (by omega) ?_
  refine mz_WP.run 80 rfl ?_
  refine mz_WP.alN (k := i + 2) rfl hs1 (nI_add _ _) (by omega) (by omega) ?_
  refine mz_WP.run 80 rfl ?_
  refine mz_WP.alN (k := i + 3) rfl hs1 (nI_add _ _) (by omega) (by omega) ?_
  refine mz_WP.cv rfl rfl (Nat.le_of_ble_eq_true rfl) rfl (ho) rfl (p_told M1 W ?_)
  refine mz_WP.icmp rfl (fun cc => ?_) (fun cc => ?_)
  · exact nx _ _ _ _ C1 M1 hs1
  · exact absurd rfl cc
set_option maxRecDepth 20000 in
theorem law_ride (hL : L ≤ 3072) (hi : i + 6 ≤ L) (C : CI h g kp gi) (M : MI h g kp gi) (hs : h 1 = .inl (0, L, xs)) (nx : lawN L xs i bc bs) : mz_WP (mz_wc 8) 8 2 co_law lawQ 341 (lawL i) [] 205 h bc bs := by
  have W := C.2.2.2.1
  have hkp := C.2.2.2.2.2.2.2.2.1
  refine mz_WP.run 80 rfl ?_
  refine mz_WP.alN (k := i + 1) rfl hs (nI_add _ _) (by omega) (by omega) ?_
  refine mz_WP.run 80 rfl ?_
  refine mz_WP.alN (k := i + 2) rfl hs (nI_add _ _) (by omega) (by omega) ?_
  refine mz_WP.run 80 rfl ?_
  refine mz_WP.alN (k := i + 3) rfl hs (nI_add _ _) (by omega) (by omega) ?_
  refine mz_WP.cv rfl rfl (Nat.le_of_ble_eq_true rfl) rfl (C.2.2.1) rfl (s_ride C (fun h1 C1 o1 => ?_))
  have M1 := M.to (fun b hb => o1 b (by omega))
  have hs1 := (o1 1 (by omega)).trans hs
  obtain ⟨⟨r, j, ho⟩, -⟩ := id M1
  refine mz_WP.run 80 rfl ?_
  refine mz_WP.alN (k := i + 1) rfl hs1 (nI_add _ _) (by omega) (by omega) ?_
  refine mz_WP.run 80 rfl ?_
  refine mz_WP.alN (k := i + 2) rfl hs1 (nI_add _ _) (by omega) (by omega) ?_
  refine mz_WP.run 80 rfl ?_
  refine mz_WP.alN (k := i + 3) rfl hs1 (nI_add _ _) (by omega) (by omega) ?_
  refine mz_WP.cv rfl rfl (Nat.le_of_ble_eq_true rfl) rfl (ho) rfl (m_ride M1 W (fun h2 M2 o2 => ?_))
  refine mz_WP.icmp rfl (fun cc => ?_) (fun cc => ?_)
  · exact nx _ _ _ _ (C1.lo o2) M2 ((o2 1 (by omega)).trans hs1)
  · exact absurd rfl cc
set_option maxRecDepth 20000 in
theorem law_journey (hL : L ≤ 3072) (hi : i + 6 ≤ L) (C : CI h g kp gi) (M : MI h g kp gi) (hs : h 1 = .inl (0, L, xs)) (nx : lawN L xs i bc bs) : mz_WP (mz_wc 8) 8 2 co_law lawQ 384 (lawL i) [] 205 h bc bs := by
  have W := C.2.2.2.1
  have hkp := C.2.2.2.2.2.2.2.2.1
  refine mz_WP.run 80 rfl ?_
  refine mz_WP.alN (k := i + 1) rfl hs (nI_add _ _) (by omega) (by omega) ?_
  refine mz_WP.run 80 rfl ?_
  refine mz_WP.alN (k := i + 2) rfl hs (nI_add _ _) (by omega) (by omega) ?_
  refine mz_WP.run 80 rfl ?_
  refine mz_WP.alN (k := i + 3) rfl hs (nI_add _ _) (by omega) (by omega) ?_
  refine mz_WP.cv rfl rfl (Nat.le_of_ble_eq_true rfl) rfl (C.2.2.1) rfl (s_journey C (fun h1 C1 o1 => ?_))
  have M1 := M.to (fun b hb => o1 b (by omega))
  have hs1 := (o1 1 (by omega)).trans hs
  obtain ⟨⟨r, j, ho⟩, -⟩ := id M1
  refine mz_WP.run 80 rfl ?_
  refine mz_WP.alN (k := i + 1) rfl hs1 (nI_add _ _) (by omega) (by omega) ?_
  refine mz_WP.run 80 rfl ?_
  refine mz_WP.alN (k := i + 2) rfl hs1 (nI_add _ _) (by omega) (by omega) ?_
  refine mz_WP.run 80 rfl ?_
  refine mz_WP.alN (k := i + 3) rfl hs1 (nI_add _ _) (by omega) (by omega) ?_
  refine mz_WP.cv rfl rfl (Nat.le_of_ble_eq_true rfl) rfl (ho) rfl (m_journey M1 W (fun h2 M2 o2 => ?_))
  refine mz_WP.icmp rfl (fun cc => ?_) (fun cc => ?_)
  · exact nx _ _ _ _ (C1.lo o2) M2 ((o2 1 (by omega)).trans hs1)
  · exact absurd rfl cc
set_option maxRecDepth 20000 in
theorem law_day (hL : L ≤ 3072) (hi : i + 6 ≤ L) (C : CI h g kp gi) (M : MI h g kp gi) (hs : h 1 = .inl (0, L, xs)) (nx : lawN L xs i bc bs) : mz_WP (mz_wc 8) 8 2 co_law lawQ 427 (lawL i) [] 205 h bc bs := by
  have W := C.2.2.2.1
  have hkp := C.2.2.2.2.2.2.2.2.1
  refine mz_WP.run 80 rfl ?_
  refine mz_WP.alN (k := i + 1) rfl hs (nI_add _ _) (by omega) (by omega) ?_
  refine mz_WP.run 80 rfl ?_
  refine mz_WP.alN (k := i + 2) rfl hs (nI_add _ _) (by omega) (by omega) ?_
  refine mz_WP.run 80 rfl ?_
  refine mz_WP.alN (k := i + 3) rfl hs (nI_add _ _) (by omega) (by omega) ?_
  refine mz_WP.cv rfl rfl (Nat.le_of_ble_eq_true rfl) rfl (C.2.2.1) rfl (s_day C (fun h1 C1 o1 => ?_))
  have M1 := M.to (fun b hb => o1 b (by omega))
  have hs1 := (o1 1 (by omega)).trans hs
  obtain ⟨⟨r, j, ho⟩, -⟩ := id M1
  refine mz_WP.run 80 rfl ?_
  refine mz_WP.alN (k := i + 1) rfl hs1 (nI_add _ _) (by omega) (by omega) ?_
  refine mz_WP.run 80 rfl ?_
  refine mz_WP.alN (k := i + 2) rfl hs1 (nI_add _ _) (by omega) (by omega) ?_
  refine mz_WP.run 80 rfl ?_
  refine mz_WP.alN (k := i + 3) rfl hs1 (nI_add _ _) (by omega) (by omega) ?_
  refine mz_WP.cv rfl rfl (Nat.le_of_ble_eq_true rfl) rfl (ho) rfl (m_day M1 W (fun h2 M2 o2 => ?_))
  refine mz_WP.icmp rfl (fun cc => ?_) (fun cc => ?_)
  · exact nx _ _ _ _ (C1.lo o2) M2 ((o2 1 (by omega)).trans hs1)
  · exact absurd rfl cc
set_option maxRecDepth 20000 in
theorem law_best (hL : L ≤ 3072) (hi : i + 6 ≤ L) (C : CI h g kp gi) (M : MI h g kp gi) (hs : h 1 = .inl (0, L, xs)) (nx : lawN L xs i bc bs) : mz_WP (mz_wc 8) 8 2 co_law lawQ 470 (lawL i) [] 205 h bc bs := by
  have W := C.2.2.2.1
  have hkp := C.2.2.2.2.2.2.2.2.1
  refine mz_WP.run 80 rfl ?_
  refine mz_WP.alN (k := i + 1) rfl hs (nI_add _ _) (by omega) (by omega) ?_
  refine mz_WP.run 80 rfl ?_
  refine mz_WP.alN (k := i + 2) rfl hs (nI_add _ _) (by omega) (by omega) ?_
  refine mz_WP.cv rfl rfl (Nat.le_of_ble_eq_true rfl) rfl (C.2.2.1) rfl (s_best C (fun h1 C1 o1 => ?_))
  have M1 := M.to (fun b hb => o1 b (by omega))
  have hs1 := (o1 1 (by omega)).trans hs
  obtain ⟨⟨r, j, ho⟩, -⟩ := id M1
  refine mz_WP.run 80 rfl ?_
  refine mz_WP.alN (k := i + 1) rfl hs1 (nI_add _ _) (by omega) (by omega) ?_
  refine mz_WP.run 80 rfl ?_
  refine mz_WP.alN (k := i + 2) rfl hs1 (nI_add _ _) (by omega) (by omega) ?_
  refine mz_WP.cv rfl rfl (Nat.le_of_ble_eq_true rfl) rfl (ho) rfl (m_best M1 W (fun h2 M2 o2 => ?_))
  refine mz_WP.icmp rfl (fun cc => ?_) (fun cc => ?_)
  · exact nx _ _ _ _ (C1.lo o2) M2 ((o2 1 (by omega)).trans hs1)
  · exact absurd rfl cc
set_option maxRecDepth 20000 in
theorem law_saved (hL : L ≤ 3072) (hi : i + 6 ≤ L) (C : CI h g kp gi) (M : MI h g kp gi) (hs : h 1 = .inl (0, L, xs)) (nx : lawN L xs i bc bs) : mz_WP (mz_wc 8) 8 2 co_law lawQ 503 (lawL i) [] 205 h bc bs := by
  have W := C.2.2.2.1
  have hkp := C.2.2.2.2.2.2.2.2.1
  refine mz_WP.run 80 rfl ?_
  refine mz_WP.alN (k := i + 1) rfl hs (nI_add _ _) (by omega) (by omega) ?_
  refine mz_WP.run 80 rfl ?_
  refine mz_WP.alN (k := i + 2) rfl hs (nI_add _ _) (by omega) (by omega) ?_
  refine mz_WP.cv rfl rfl (Nat.le_of_ble_eq_true rfl) rfl (C.2.2.1) rfl (s_saved C (fun h1 C1 o1 => ?_))
  have M1 := M.to (fun b hb => o1 b (by omega))
  have hs1 := (o1 1 (by omega)).trans hs
  obtain ⟨⟨r, j, ho⟩, -⟩ := id M1
  refine mz_WP.run 80 rfl ?_
  refine mz_WP.alN (k := i + 1) rfl hs1 (nI_add _ _) (by omega) (by omega) ?_
  refine mz_WP.run 80 rfl ?_
  refine mz_WP.alN (k := i + 2) rfl hs1 (nI_add _ _) (by omega) (by omega) ?_
  refine mz_WP.cv rfl rfl (Nat.le_of_ble_eq_true rfl) rfl (ho) rfl (m_saved M1 W (fun h2 M2 o2 => ?_))
  refine mz_WP.icmp rfl (fun cc => ?_) (fun cc => ?_)
  · exact nx _ _ _ _ (C1.lo o2) M2 ((o2 1 (by omega)).trans hs1)
  · exact absurd rfl cc
set_option maxRecDepth 20000 in
theorem law_would (hL : L ≤ 3072) (hi : i + 6 ≤ L) (C : CI h g kp gi) (M : MI h g kp gi) (hs : h 1 = .inl (0, L, xs)) (nx : lawN L xs i bc bs) : mz_WP (mz_wc 8) 8 2 co_law lawQ 536 (lawL i) [] 205 h bc bs := by
  have W := C.2.2.2.1
  have hkp := C.2.2.2.2.2.2.2.2.1
  refine mz_WP.run 80 rfl ?_
  refine mz_WP.alN (k := i + 1) rfl hs (nI_add _ _) (by omega) (by omega) ?_
  refine mz_WP.run 80 rfl ?_
  refine mz_WP.alN (k := i + 2) rfl hs (nI_add _ _) (by omega) (by omega) ?_
  refine mz_WP.run 80 rfl ?_
  refine mz_WP.alN (k := i + 3) rfl hs (nI_add _ _) (by omega) (by omega) ?_
  refine mz_WP.run 80 rfl ?_
  refine mz_WP.alN (k := i + 4) rfl hs (nI_add _ _) (by omega) (by omega) ?_
  refine mz_WP.run 80 rfl ?_
  refine mz_WP.alN (k := i + 5) rfl hs (nI_add _ _) (by omega) (by omega) ?_
  refine mz_WP.cv rfl rfl (Nat.le_of_ble_eq_true rfl) rfl (C.2.2.1) rfl (s_would C (fun h1 C1 o1 => ?_))
  have M1 := M.to (fun b hb => o1 b (by omega))
  have hs1 := (o1 1 (by omega)).trans hs
  obtain ⟨⟨r, j, ho⟩, -⟩ := id M1
  refine mz_WP.run 80 rfl ?_
  refine mz_WP.alN (k := i + 1) rfl hs1 (nI_add _ _) (by omega) (by omega) ?_
  refine mz_WP.run 80 rfl ?_
  refine mz_WP.alN (k := i + 2) rfl hs1 (nI_add _ _) (by omega) (by omega) ?_
  refine mz_WP.run 80 rfl ?_
  refine mz_WP.alN (k := i + 3) rfl hs1 (nI_add _ _) (by omega) (by omega) ?_
  refine mz_WP.run 80 rfl ?_
  refine mz_WP.alN (k := i + 4) rfl hs1 (nI_add _ _) (by omega) (by omega) ?_
  refine mz_WP.run 80 rfl ?_
  refine mz_WP.alN (k := i + 5) rfl hs1 (nI_add _ _) (by omega) (by omega) ?_
  refine mz_WP.cv rfl rfl (Nat.le_of_ble_eq_true rfl) rfl (ho) rfl (m_would M1 W (fun h2 g' M2 G o2 => ?_))
  refine mz_WP.icmp rfl (fun cc => ?_) (fun cc => ?_)
  · exact nx _ _ _ _ ((C1.lo o2).ge G) M2 ((o2 1 (by omega)).trans hs1)
  · exact absurd rfl cc
set_option maxRecDepth 20000 in
theorem law_bar (hL : L ≤ 3072) (hi : i + 6 ≤ L) (C : CI h g kp gi) (M : MI h g kp gi) (hs : h 1 = .inl (0, L, xs)) (nx : lawN L xs i bc bs) : mz_WP (mz_wc 8) 8 2 co_law lawQ 599 (lawL i) [] 205 h bc bs := by
  have W := C.2.2.2.1
  have hkp := C.2.2.2.2.2.2.2.2.1
  refine mz_WP.run 80 rfl ?_
  refine mz_WP.alN (k := i + 1) rfl hs (nI_add _ _) (by omega) (by omega) ?_
  refine mz_WP.run 80 rfl ?_
  refine mz_WP.alN (k := i + 2) rfl hs (nI_add _ _) (by omega) (by omega) ?_
  refine mz_WP.cv rfl rfl (Nat.le_of_ble_eq_true rfl) rfl (C.2.2.1) rfl (s_bar C (fun h1 C1 o1 => ?_))
  have M1 := M.to (fun b hb => o1 b (by omega))
  have hs1 := (o1 1 (by omega)).trans hs
  obtain ⟨⟨r, j, ho⟩, -⟩ := id M1
  refine mz_WP.run 80 rfl ?_
  refine mz_WP.alN (k := i + 1) rfl hs1 (nI_add _ _) (by omega) (by omega) ?_
  refine mz_WP.run 80 rfl ?_
  refine mz_WP.alN (k := i + 2) rfl hs1 (nI_add _ _) (by omega) (by omega) ?_
  refine mz_WP.cv rfl rfl (Nat.le_of_ble_eq_true rfl) rfl (ho) rfl (m_bar M1 (fun h2 M2 o2 => ?_))
  refine mz_WP.icmp rfl (fun cc => ?_) (fun cc => ?_)
  · exact nx _ _ _ _ (C1.lo o2) M2 ((o2 1 (by omega)).trans hs1)
  · exact absurd rfl cc
set_option maxRecDepth 20000 in
theorem law_hear (hL : L ≤ 3072) (hi : i + 6 ≤ L) (C : CI h g kp gi) (M : MI h g kp gi) (hs : h 1 = .inl (0, L, xs)) (nx : lawN L xs i bc bs) : mz_WP (mz_wc 8) 8 2 co_law lawQ 632 (lawL i) [] 205 h bc bs := by
  have W := C.2.2.2.1
  have hkp := C.2.2.2.2.2.2.2.2.1
  refine mz_WP.run 80 rfl ?_
  refine mz_WP.alN (k := i + 1) rfl hs (nI_add _ _) (by omega) (by omega) ?_
  refine mz_WP.cv rfl rfl (Nat.le_of_ble_eq_true rfl) rfl (C.2.2.1) rfl (s_hear C (fun h1 C1 o1 => ?_))
  have M1 := M.to (fun b hb => o1 b (by omega))
  have hs1 := (o1 1 (by omega)).trans hs
  obtain ⟨⟨r, j, ho⟩, -⟩ := id M1
  refine mz_WP.run 80 rfl ?_
  refine mz_WP.alN (k := i + 1) rfl hs1 (nI_add _ _) (by omega) (by omega) ?_
  refine mz_WP.cv rfl rfl (Nat.le_of_ble_eq_true rfl) rfl (ho) rfl (m_hear M1 (fun h2 M2 o2 => ?_))
  refine mz_WP.icmp rfl (fun cc => ?_) (fun cc => ?_)
  · exact nx _ _ _ _ (C1.lo o2) M2 ((o2 1 (by omega)).trans hs1)
  · exact absurd rfl cc
set_option maxRecDepth 20000 in
theorem law_pass (hL : L ≤ 3072) (hi : i + 6 ≤ L) (C : CI h g kp gi) (M : MI h g kp gi) (hs : h 1 = .inl (0, L, xs)) (nx : lawN L xs i bc bs) : mz_WP (mz_wc 8) 8 2 co_law lawQ 655 (lawL i) [] 205 h bc bs := by
  have W := C.2.2.2.1
  have hkp := C.2.2.2.2.2.2.2.2.1
  refine mz_WP.run 80 rfl ?_
  refine mz_WP.alN (k := i + 1) rfl hs (nI_add _ _) (by omega) (by omega) ?_
  refine mz_WP.run 80 rfl ?_
  refine mz_WP.alN (k := i + 2) rfl hs (nI_add _ _) (by omega) (by omega) ?_
  refine mz_WP.cv rfl rfl (Nat.le_of_ble_eq_true rfl) rfl (C.2.2.1) rfl (s_pass C ?_)
  have C1 := C
  have M1 := M
  have hs1 := hs
  obtain ⟨⟨r, j, ho⟩, -⟩ := id M1
  refine mz_WP.run 80 rfl ?_
  refine mz_WP.alN (k := i + 1) rfl hs1 (nI_add _ _) (by omega) (by omega) ?_
  refine mz_WP.run 80 rfl ?_
  refine mz_WP.alN (k := i + 2) rfl hs1 (nI_add _ _) (by omega) (by omega) ?_
  refine mz_WP.cv rfl rfl (Nat.le_of_ble_eq_true rfl) rfl (ho) rfl (m_pass M1 ?_)
  refine mz_WP.icmp rfl (fun cc => ?_) (fun cc => ?_)
  · exact nx _ _ _ _ C1 M1 hs1
  · exact absurd rfl cc
set_option maxRecDepth 20000 in
theorem law_image (hL : L ≤ 3072) (hi : i + 6 ≤ L) (C : CI h g kp gi) (M : MI h g kp gi) (hs : h 1 = .inl (0, L, xs)) (nx : lawN L xs i bc bs) : mz_WP (mz_wc 8) 8 2 co_law lawQ 688 (lawL i) [] 205 h bc bs := by
  have W := C.2.2.2.1
  have hkp := C.2.2.2.2.2.2.2.2.1
  refine mz_WP.run 80 rfl ?_
  refine mz_WP.alN (k := i + 1) rfl hs (nI_add _ _) (by omega) (by omega) ?_
  refine mz_WP.cv rfl rfl (Nat.le_of_ble_eq_true rfl) rfl (C.2.2.1) rfl (s_image C (fun h1 C1 o1 => ?_))
  have M1 := M.to (fun b hb => o1 b (by omega))
  have hs1 := (o1 1 (by omega)).trans hs
  obtain ⟨⟨r, j, ho⟩, -⟩ := id M1
  refine mz_WP.run 80 rfl ?_
  refine mz_WP.alN (k := i + 1) rfl hs1 (nI_add _ _) (by omega) (by omega) ?_
  refine mz_WP.cv rfl rfl (Nat.le_of_ble_eq_true rfl) rfl (ho) rfl (m_image M1 hkp (fun h2 M2 o2 => ?_))
  refine mz_WP.icmp rfl (fun cc => ?_) (fun cc => ?_)
  · exact nx _ _ _ _ (C1.lo o2) M2 ((o2 1 (by omega)).trans hs1)
  · exact absurd rfl cc
set_option maxRecDepth 20000 in
theorem law_restore (hL : L ≤ 3072) (hi : i + 6 ≤ L) (C : CI h g kp gi) (M : MI h g kp gi) (hs : h 1 = .inl (0, L, xs)) (nx : lawN L xs i bc bs) : mz_WP (mz_wc 8) 8 2 co_law lawQ 711 (lawL i) [] 205 h bc bs := by
  have W := C.2.2.2.1
  have hkp := C.2.2.2.2.2.2.2.2.1
  refine mz_WP.run 80 rfl ?_
  refine mz_WP.alN (k := i + 1) rfl hs (nI_add _ _) (by omega) (by omega) ?_
  refine mz_WP.cv rfl rfl (Nat.le_of_ble_eq_true rfl) rfl (C.2.2.1) rfl (s_restore C (fun h1 C1 o1 => ?_))
  have M1 := M.to (fun b hb => o1 b (by omega))
  have hs1 := (o1 1 (by omega)).trans hs
  obtain ⟨⟨r, j, ho⟩, -⟩ := id M1
  refine mz_WP.run 80 rfl ?_
  refine mz_WP.alN (k := i + 1) rfl hs1 (nI_add _ _) (by omega) (by omega) ?_
  refine mz_WP.cv rfl rfl (Nat.le_of_ble_eq_true rfl) rfl (ho) rfl (m_restore M1 (fun h2 g' M2 G o2 => ?_))
  refine mz_WP.icmp rfl (fun cc => ?_) (fun cc => ?_)
  · exact nx _ _ _ _ ((C1.lo o2).ge G) M2 ((o2 1 (by omega)).trans hs1)
  · exact absurd rfl cc
set_option maxRecDepth 20000 in
theorem law_count (hL : L ≤ 3072) (hi : i + 6 ≤ L) (C : CI h g kp gi) (M : MI h g kp gi) (hs : h 1 = .inl (0, L, xs)) (nx : lawN L xs i bc bs) : mz_WP (mz_wc 8) 8 2 co_law lawQ 734 (lawL i) [] 205 h bc bs := by
  have W := C.2.2.2.1
  have hkp := C.2.2.2.2.2.2.2.2.1
  refine mz_WP.run 80 rfl ?_
  refine mz_WP.alN (k := i + 1) rfl hs (nI_add _ _) (by omega) (by omega) ?_
  refine mz_WP.cv rfl rfl (Nat.le_of_ble_eq_true rfl) rfl (C.2.2.1) rfl (s_count C (fun h1 C1 o1 => ?_))
  have M1 := M.to (fun b hb => o1 b (by omega))
  have hs1 := (o1 1 (by omega)).trans hs
  obtain ⟨⟨r, j, ho⟩, -⟩ := id M1
  refine mz_WP.run 80 rfl ?_
  refine mz_WP.alN (k := i + 1) rfl hs1 (nI_add _ _) (by omega) (by omega) ?_
  refine mz_WP.cv rfl rfl (Nat.le_of_ble_eq_true rfl) rfl (ho) rfl (m_count M1 W hkp (fun h2 M2 o2 => ?_))
  refine mz_WP.icmp rfl (fun cc => ?_) (fun cc => ?_)
  · exact nx _ _ _ _ (C1.lo o2) M2 ((o2 1 (by omega)).trans hs1)
  · exact absurd rfl cc
end LAW
