/-! the law: its loop -/
set_option maxRecDepth 20000 in
theorem law_loop {L bc bs : Nat} {xs : Nat → Int32} (hL : L ≤ 3072) : ∀ q i h g kp gi, L - i ≤ q → i ≤ 3072 → CI h g kp gi → MI h g kp gi → h 1 = .inl (0, L, xs) → mz_WP (mz_wc 8) 8 2 co_law lawQ 18 (lawL i) [] 205 h bc bs := by
  have out : ∀ i h, mz_WP (mz_wc 8) 8 2 co_law lawQ 763 (lawL i) [] 205 h bc bs := by
    intro i h
    refine mz_WP.run 80 rfl ?_
    exact mz_WP.zret rfl rfl (Or.inr nI1) (by rw [nI1])
  have hcmp : ∀ i, i ≤ 3072 → ¬ nI L - nI 6 < nI i → i + 6 ≤ L := by
    intro i hi hc
    rw [Int32.lt_iff_toInt_lt, pk_sub_toInt (by omega) (by omega), nI_toInt (by omega)] at hc
    omega
  intro q
  induction q with
  | zero =>
    intro i h g kp gi hq hi C M hs
    refine mz_WP.run 80 rfl ?_
    refine mz_WP.alen rfl hs ?_
    refine mz_WP.run 80 rfl ?_
    refine mz_WP.icmp rfl (fun cc => ?_) (fun cc => ?_)
    · exact out i h
    · have := hcmp i hi cc
      omega
  | succ q ih =>
    intro i h g kp gi hq hi C M hs
    refine mz_WP.run 80 rfl ?_
    refine mz_WP.alen rfl hs ?_
    refine mz_WP.run 80 rfl ?_
    refine mz_WP.icmp rfl (fun cc => ?_) (fun cc => ?_)
    · exact out i h
    have hi6 := hcmp i hi cc
    have nx : lawN L xs i bc bs := by
      intro h g kp gi C M hs
      refine mz_WP.run 80 rfl ?_
      rw [nI_add]
      exact ih (i + 6) h g kp gi (by omega) (by omega) C M hs
    refine mz_WP.run 80 rfl ?_
    refine mz_WP.alN (k := i) rfl hs rfl (by omega) (by omega) ?_
    refine mz_WP.run 80 rfl ?_
    refine mz_WP.tsw rfl (fun _ => ?_) (fun off h1 h2 ho => ?_)
    · exact nx h g kp gi C M hs
    · generalize hm : ((xs i &&& nI 31).toInt - 0).toNat = m at ho
      have hm16 : m ≤ 16 := by omega
      match m, hm16 with
      | 0, _ =>
        cases ho
        exact law_zone hL hi6 C M hs nx
      | 1, _ =>
        cases ho
        exact law_price hL hi6 C M hs nx
      | 2, _ =>
        cases ho
        exact law_tap hL hi6 C M hs nx
      | 3, _ =>
        cases ho
        exact law_untap hL hi6 C M hs nx
      | 4, _ =>
        cases ho
        exact law_told hL hi6 C M hs nx
      | 5, _ =>
        cases ho
        exact law_ride hL hi6 C M hs nx
      | 6, _ =>
        cases ho
        exact law_journey hL hi6 C M hs nx
      | 7, _ =>
        cases ho
        exact law_day hL hi6 C M hs nx
      | 8, _ =>
        cases ho
        exact law_best hL hi6 C M hs nx
      | 9, _ =>
        cases ho
        exact law_saved hL hi6 C M hs nx
      | 10, _ =>
        cases ho
        exact law_would hL hi6 C M hs nx
      | 11, _ =>
        cases ho
        exact law_bar hL hi6 C M hs nx
      | 12, _ =>
        cases ho
        exact law_hear hL hi6 C M hs nx
      | 13, _ =>
        cases ho
        exact law_pass hL hi6 C M hs nx
      | 14, _ =>
        cases ho
        exact law_image hL hi6 C M hs nx
      | 15, _ =>
        cases ho
        exact law_restore hL hi6 C M hs nx
      | 16, _ =>
        cases ho
        exact law_count hL hi6 C M hs nx
theorem mz_lawWP {L : Nat} {xs : Nat → Int32} (hL : L ≤ 3072) : mz_WP (mz_wc 8) 8 2 co_law (fun r _ _ => r = some (.int 1)) 0 [some (.ref 1), none, none, none] [] 0 (mz_h0 L xs) 600000 7302250 := by
  refine mz_WP.new rfl (by decide) (by decide) (by decide) ?_
  refine mz_WP.run 80 rfl ?_
  refine mz_WP.ci (as := [.ref 2]) (r := [.ref 2]) (mc := 183) (ms := 2925) rfl (by decide) rfl (Nat.le_of_ble_eq_true rfl) rfl rfl (by decide) (by decide) ?_
  refine s_ledinit (gi := fun _ _ => 0) rfl rfl (fun h1 C1 o1 => ?_)
  refine mz_WP.run 80 rfl ?_
  refine mz_WP.new rfl (by decide) (by decide) (by decide) ?_
  refine mz_WP.run 80 rfl ?_
  refine mz_WP.ci (as := [.ref 186]) (r := [.ref 186]) (mc := 20) (ms := 1991) rfl (by decide) rfl (Nat.le_of_ble_eq_true rfl) rfl rfl (by decide) (by decide) ?_
  refine m_init mz_up_s (fun h2 g2 G2 M2 o2 => ?_)
  refine mz_WP.run 3 rfl ?_
  refine law_loop (xs := xs) hL L 0 h2 g2 0 (fun _ _ => 0) (by omega) (by omega) ?_ (M2 _) ?_
  · exact ((C1.lo (fun b hb => mz_up_n (by omega))).lo o2).ge G2
  · exact (o2 1 (by omega)).trans ((mz_up_n (by omega)).trans (o1 1 (by omega)))
