/-! the makers of the class: Bill, the whole; what stands then -/
def gz0 : Nat → Int32 := fun b => if b < 388 then 0 else if b < 396 then mz_zn (b - 388) else if b < 401 then nI (150 + 50 * (b - 395)) else if b < 406 then nI (400 + 100 * (b - 400)) else if b < 411 then nI (1500 + 400 * (b - 405)) else if b = 411 then nI 50 else if b = 412 then nI 30 else 0
section MK6
variable {e : Nat} {h : mz_H} {Q : mz_Q}
def BI (h : mz_H) : Prop := h 139 = .inr (1, [.ref 140, .ref 155, .ref 168, .ref 175]) ∧ (h 140 = .inr (5, [.ref 141, .ref 143, .ref 145, .ref 147, .ref 149, .ref 151, .ref 153, .int (nI 0)]) ∧ RI h 140 7 (fun j => ([48, 48, 48, 48, 48, 8, 8] : List Nat).getD j 0)) ∧ (h 155 = .inr (3, [.ref 156, .ref 158, .ref 160, .ref 162, .ref 164, .ref 166, .int (nI 0)]) ∧ RI h 155 6 (fun j => ([48, 48, 48, 48, 48, 48] : List Nat).getD j 0)) ∧ (h 168 = .inr (2, [.ref 169, .ref 171, .ref 173]) ∧ RI h 168 3 (fun j => ([28, 28, 28] : List Nat).getD j 0)) ∧ (h 175 = .inr (4, [.ref 176, .ref 178, .ref 180, .ref 182, .ref 184]) ∧ RI h 175 5 (fun j => ([29, 29, 28, 4, 28] : List Nat).getD j 0))
theorem RI.to {h' : mz_H} {t k : Nat} {ln : Nat → Nat} (R : RI h t k ln) (hh : ∀ b, t < b → b ≤ t + 2 * k → h' b = h b) : RI h' t k ln := fun j hj => ⟨(hh _ (by omega) (by omega)).trans (R j hj).1, (hh _ (by omega) (by omega)).trans (R j hj).2⟩
theorem BI.to {h' : mz_H} (B : BI h) (hh : ∀ b, 139 ≤ b → b ≤ 185 → h' b = h b) : BI h' := by
  obtain ⟨e0, ⟨e1, r1⟩, ⟨e2, r2⟩, ⟨e3, r3⟩, e4, r4⟩ := B
  exact ⟨(hh _ (by omega) (by omega)).trans e0, ⟨(hh _ (by omega) (by omega)).trans e1, r1.to (fun b _ _ => hh b (by omega) (by omega))⟩, ⟨(hh _ (by omega) (by omega)).trans e2, r2.to (fun b _ _ => hh b (by omega) (by omega))⟩, ⟨(hh _ (by omega) (by omega)).trans e3, r3.to (fun b _ _ => hh b (by omega) (by omega))⟩, (hh _ (by omega) (by omega)).trans e4, r4.to (fun b _ _ => hh b (by omega) (by omega))⟩
theorem s_billinit (hs : h 139 = .inr (1, mz_df 1)) (H : ∀ h', BI h' → (∀ b, b < 139 ∨ 185 < b → h' b = h b) → Q none 184 h') : mz_wc (e + 4) 9 [.ref 139] 138 h Q := by
  refine mz_wc.enter (code := co_X1_init) (idx := 9) rfl rfl (Nat.le_of_ble_eq_true rfl) rfl rfl ?_
  refine mz_WP.run 80 rfl ?_
  refine mz_WP.oi rfl rfl (by omega) (Nat.le_of_ble_eq_true rfl) ?_
  refine mk_obj (hs) rfl rfl (by decide) rfl rfl (by decide) rfl rfl rfl (by decide) (by decide) (Nat.le_of_ble_eq_true rfl) (Nat.le_of_ble_eq_true rfl) rfl ?_
  refine s_init5 (n := 139) mz_up_s (fun h1 T1 R1 q1 => ⟨rfl, (q1 _ (by omega)).trans ((mz_up_n (by omega)).trans (hs)), ?_⟩)
  refine mk_obj (mz_up_s) rfl rfl (by decide) rfl rfl (by decide) rfl rfl rfl (by decide) (by decide) (Nat.le_of_ble_eq_true rfl) (Nat.le_of_ble_eq_true rfl) rfl ?_
  refine s_init3 (n := 154) mz_up_s (fun h2 T2 R2 q2 => ⟨rfl, (q2 _ (by omega)).trans ((mz_up_n (by omega)).trans mz_up_s), ?_⟩)
  refine mk_obj (mz_up_s) rfl rfl (by decide) rfl rfl (by decide) rfl rfl rfl (by decide) (by decide) (Nat.le_of_ble_eq_true rfl) (Nat.le_of_ble_eq_true rfl) rfl ?_
  refine s_init2 (n := 167) mz_up_s (fun h3 T3 R3 q3 => ⟨rfl, (q3 _ (by omega)).trans ((mz_up_n (by omega)).trans mz_up_s), ?_⟩)
  refine mk_obj (mz_up_s) rfl rfl (by decide) rfl rfl (by decide) rfl rfl rfl (by decide) (by decide) (Nat.le_of_ble_eq_true rfl) (Nat.le_of_ble_eq_true rfl) rfl ?_
  refine s_init4 (n := 174) mz_up_s (fun h4 T4 R4 q4 => ⟨rfl, (q4 _ (by omega)).trans ((mz_up_n (by omega)).trans mz_up_s), ?_⟩)
  refine mz_WP.vret rfl rfl (H _ ⟨mz_up_s, ⟨?_, ?_⟩, ⟨?_, ?_⟩, ⟨?_, ?_⟩, ?_, ?_⟩ (fun b hb => ?_))
  · exact (mz_up_n (by omega)).trans (Eq.trans ((q4 _ (by omega)).trans ((mz_up_n (by omega)).trans ((mz_up_n (by omega)).trans ((q3 _ (by omega)).trans ((mz_up_n (by omega)).trans ((mz_up_n (by omega)).trans ((q2 _ (by omega)).trans ((mz_up_n (by omega)).trans ((mz_up_n (by omega)).trans (rfl)))))))))) T1)
  · exact RI.to R1 (fun b _ _ => (mz_up_n (by omega)).trans ((q4 b (by omega)).trans ((mz_up_n (by omega)).trans ((mz_up_n (by omega)).trans ((q3 b (by omega)).trans ((mz_up_n (by omega)).trans ((mz_up_n (by omega)).trans ((q2 b (by omega)).trans ((mz_up_n (by omega)).trans ((mz_up_n (by omega)).trans (rfl)))))))))))
  · exact (mz_up_n (by omega)).trans (Eq.trans ((q4 _ (by omega)).trans ((mz_up_n (by omega)).trans ((mz_up_n (by omega)).trans ((q3 _ (by omega)).trans ((mz_up_n (by omega)).trans ((mz_up_n (by omega)).trans (rfl))))))) T2)
  · exact RI.to R2 (fun b _ _ => (mz_up_n (by omega)).trans ((q4 b (by omega)).trans ((mz_up_n (by omega)).trans ((mz_up_n (by omega)).trans ((q3 b (by omega)).trans ((mz_up_n (by omega)).trans ((mz_up_n (by omega)).trans (rfl))))))))
  · exact (mz_up_n (by omega)).trans (Eq.trans ((q4 _ (by omega)).trans ((mz_up_n (by omega)).trans ((mz_up_n (by omega)).trans (rfl)))) T3)
  · exact RI.to R3 (fun b _ _ => (mz_up_n (by omega)).trans ((q4 b (by omega)).trans ((mz_up_n (by omega)).trans ((mz_up_n (by omega)).trans (rfl)))))
  · exact (mz_up_n (by omega)).trans (Eq.trans (rfl) T4)
  · exact RI.to R4 (fun b _ _ => (mz_up_n (by omega)).trans (rfl))
  · exact (mz_up_n (by omega)).trans ((q4 b (by omega)).trans ((mz_up_n (by omega)).trans ((mz_up_n (by omega)).trans ((q3 b (by omega)).trans ((mz_up_n (by omega)).trans ((mz_up_n (by omega)).trans ((q2 b (by omega)).trans ((mz_up_n (by omega)).trans ((mz_up_n (by omega)).trans ((q1 b (by omega)).trans (mz_up_n (by omega))))))))))))
theorem s_ledinit0 (hz : h 0 = .inl (0, 8, mz_zn)) (hs : h 2 = .inr (10, mz_df 10)) (H : ∀ h', h' 2 = .inr (10, [.ref 3, .ref 46, .ref 89, .int (nI 0), .ref 132, .ref 139]) → SI h' 3 → SI h' 46 → SI h' 89 → TA h' 132 (nI 0) zf zf zf → BI h' → (∀ b, b < 2 ∨ 185 < b → h' b = h b) → Q none 184 h') : mz_wc (e + 5) 81 [.ref 2] 1 h Q := by
  refine mz_wc.enter (code := co_X10_init) (idx := 81) rfl rfl (Nat.le_of_ble_eq_true rfl) rfl rfl ?_
  refine mz_WP.run 80 rfl ?_
  refine mz_WP.oi rfl rfl (by omega) (Nat.le_of_ble_eq_true rfl) ?_
  refine mk_obj (hs) rfl rfl (by decide) rfl rfl (by decide) rfl rfl rfl (by decide) (by decide) (Nat.le_of_ble_eq_true rfl) (Nat.le_of_ble_eq_true rfl) rfl ?_
  refine s_stinit (n := 2) (by omega) ((mz_up_n (by omega)).trans hz) mz_up_s (fun h1 T1 q1 => ⟨rfl, (q1 _ (by omega)).trans ((mz_up_n (by omega)).trans hs), ?_⟩)
  refine mk_obj (mz_up_s) rfl rfl (by decide) rfl rfl (by decide) rfl rfl rfl (by decide) (by decide) (Nat.le_of_ble_eq_true rfl) (Nat.le_of_ble_eq_true rfl) rfl ?_
  refine s_stinit (n := 45) (by omega) ((mz_up_n (by omega)).trans ((mz_up_n (by omega)).trans ((q1 0 (by omega)).trans ((mz_up_n (by omega)).trans hz)))) mz_up_s (fun h2 T2 q2 => ⟨rfl, (q2 _ (by omega)).trans ((mz_up_n (by omega)).trans mz_up_s), ?_⟩)
  refine mk_obj (mz_up_s) rfl rfl (by decide) rfl rfl (by decide) rfl rfl rfl (by decide) (by decide) (Nat.le_of_ble_eq_true rfl) (Nat.le_of_ble_eq_true rfl) rfl ?_
  refine s_stinit (n := 88) (by omega) ((mz_up_n (by omega)).trans ((mz_up_n (by omega)).trans ((q2 0 (by omega)).trans ((mz_up_n (by omega)).trans ((mz_up_n (by omega)).trans ((q1 0 (by omega)).trans ((mz_up_n (by omega)).trans hz))))))) mz_up_s (fun h3 T3 q3 => ⟨rfl, (q3 _ (by omega)).trans ((mz_up_n (by omega)).trans mz_up_s), ?_⟩)
  refine mz_WP.run 80 rfl ?_
  refine mz_WP.putf rfl (mz_up_s) (Nat.le_of_ble_eq_true rfl) (Nat.le_of_ble_eq_true rfl) rfl ?_
  rw [mz_up_up]
  refine mk_obj (mz_up_s) rfl rfl (by decide) rfl rfl (by decide) rfl rfl rfl (by decide) (by decide) (Nat.le_of_ble_eq_true rfl) (Nat.le_of_ble_eq_true rfl) rfl ?_
  refine s_tapinit (n := 131) (by omega) mz_up_s (fun h4 T4 q4 => ⟨rfl, (q4 _ (by omega)).trans ((mz_up_n (by omega)).trans mz_up_s), ?_⟩)
  refine mk_obj (mz_up_s) rfl rfl (by decide) rfl rfl (by decide) rfl rfl rfl (by decide) (by decide) (Nat.le_of_ble_eq_true rfl) (Nat.le_of_ble_eq_true rfl) rfl ?_
  refine s_billinit mz_up_s (fun h5 T5 q5 => ⟨rfl, (q5 _ (by omega)).trans ((mz_up_n (by omega)).trans mz_up_s), ?_⟩)
  refine mz_WP.vret rfl rfl (H _ mz_up_s ?_ ?_ ?_ ?_ ?_ (fun b hb => ?_))
  · exact SI.to T1 (fun b _ _ => (mz_up_n (by omega)).trans ((q5 b (by omega)).trans ((mz_up_n (by omega)).trans ((mz_up_n (by omega)).trans ((q4 b (by omega)).trans ((mz_up_n (by omega)).trans ((mz_up_n (by omega)).trans ((q3 b (by omega)).trans ((mz_up_n (by omega)).trans ((mz_up_n (by omega)).trans ((q2 b (by omega)).trans ((mz_up_n (by omega)).trans ((mz_up_n (by omega)).trans (rfl))))))))))))))
  · exact SI.to T2 (fun b _ _ => (mz_up_n (by omega)).trans ((q5 b (by omega)).trans ((mz_up_n (by omega)).trans ((mz_up_n (by omega)).trans ((q4 b (by omega)).trans ((mz_up_n (by omega)).trans ((mz_up_n (by omega)).trans ((q3 b (by omega)).trans ((mz_up_n (by omega)).trans ((mz_up_n (by omega)).trans (rfl)))))))))))
  · exact SI.to T3 (fun b _ _ => (mz_up_n (by omega)).trans ((q5 b (by omega)).trans ((mz_up_n (by omega)).trans ((mz_up_n (by omega)).trans ((q4 b (by omega)).trans ((mz_up_n (by omega)).trans ((mz_up_n (by omega)).trans (rfl))))))))
  · exact TA.to T4 (fun b _ _ => (mz_up_n (by omega)).trans ((q5 b (by omega)).trans ((mz_up_n (by omega)).trans ((mz_up_n (by omega)).trans (rfl)))))
  · exact BI.to T5 (fun b _ _ => (mz_up_n (by omega)).trans (rfl))
  · exact (mz_up_n (by omega)).trans ((q5 b (by omega)).trans ((mz_up_n (by omega)).trans ((mz_up_n (by omega)).trans ((q4 b (by omega)).trans ((mz_up_n (by omega)).trans ((mz_up_n (by omega)).trans ((q3 b (by omega)).trans ((mz_up_n (by omega)).trans ((mz_up_n (by omega)).trans ((q2 b (by omega)).trans ((mz_up_n (by omega)).trans ((mz_up_n (by omega)).trans ((q1 b (by omega)).trans (mz_up_n (by omega)))))))))))))))
theorem fxf_mem : ∀ {l : List (Nat × mz_C)} {a : Nat} {c : mz_C}, fxf l a = some c → (a, c) ∈ l
  | [], _, _, z => by cases z
  | x :: r, a, c, z => by
    unfold fxf at z
    cases hb : Nat.beq x.1 a with
    | true =>
      rw [hb] at z
      have e1 : x.1 = a := Nat.eq_of_beq_eq_true hb
      have e2 : x.2 = c := Option.some.inj z
      subst e1; subst e2
      exact List.mem_cons_self
    | false =>
      rw [hb] at z
      exact List.mem_cons_of_mem _ (fxf_mem z)
def fxa (h : mz_H) : List (Nat × mz_C) → Prop
  | [] => True
  | x :: r => h x.1 = x.2 ∧ fxa h r
theorem fxa_mem : ∀ {l : List (Nat × mz_C)}, fxa h l → ∀ x ∈ l, h x.1 = x.2
  | [], _, x, hx => by cases hx
  | y :: r, H, x, hx => by
    cases hx with
    | head => exact H.1
    | tail _ hx => exact fxa_mem H.2 x hx
theorem ini_Fx (S1 : SI h 3) (S2 : SI h 46) (S3 : SI h 89) (T : TA h 132 (nI 0) zf zf zf) (B : BI h) : Fx h := by
  have F : fxa h fxl := ⟨S1.1, S1.2.1.1.1.2.1, S1.2.1.1.1.2.2.1, S1.2.1.1.1.2.2.2, S1.2.1.2.1.1.2.1, S1.2.1.2.1.1.2.2.1, S1.2.1.2.1.1.2.2.2, S1.2.1.2.2.1.1.2.1, S1.2.1.2.2.1.1.2.2.1, S1.2.1.2.2.1.1.2.2.2, S1.2.1.2.2.2.1.2.1, S1.2.1.2.2.2.1.2.2.1, S1.2.1.2.2.2.1.2.2.2, S1.2.2.1.2.1.1, S1.2.2.1.2.1.2.1, S1.2.2.1.2.1.2.2.1, S1.2.2.1.2.1.2.2.2, S1.2.2.2.2.1.1, S1.2.2.2.2.1.2, S2.1, S2.2.1.1.1.2.1, S2.2.1.1.1.2.2.1, S2.2.1.1.1.2.2.2, S2.2.1.2.1.1.2.1, S2.2.1.2.1.1.2.2.1, S2.2.1.2.1.1.2.2.2, S2.2.1.2.2.1.1.2.1, S2.2.1.2.2.1.1.2.2.1, S2.2.1.2.2.1.1.2.2.2, S2.2.1.2.2.2.1.2.1, S2.2.1.2.2.2.1.2.2.1, S2.2.1.2.2.2.1.2.2.2, S2.2.2.1.2.1.1, S2.2.2.1.2.1.2.1, S2.2.2.1.2.1.2.2.1, S2.2.2.1.2.1.2.2.2, S2.2.2.2.2.1.1, S2.2.2.2.2.1.2, S3.1, S3.2.1.1.1.2.1, S3.2.1.1.1.2.2.1, S3.2.1.1.1.2.2.2, S3.2.1.2.1.1.2.1, S3.2.1.2.1.1.2.2.1, S3.2.1.2.1.1.2.2.2, S3.2.1.2.2.1.1.2.1, S3.2.1.2.2.1.1.2.2.1, S3.2.1.2.2.1.1.2.2.2, S3.2.1.2.2.2.1.2.1, S3.2.1.2.2.2.1.2.2.1, S3.2.1.2.2.2.1.2.2.2, S3.2.2.1.2.1.1, S3.2.2.1.2.1.2.1, S3.2.2.1.2.1.2.2.1, S3.2.2.1.2.1.2.2.2, S3.2.2.2.2.1.1, S3.2.2.2.2.1.2, T.1.2.1, T.1.2.2.1, T.1.2.2.2, B.1, (B.2.1.2 0 (by decide)).1, (B.2.1.2 1 (by decide)).1, (B.2.1.2 2 (by decide)).1, (B.2.1.2 3 (by decide)).1, (B.2.1.2 4 (by decide)).1, (B.2.1.2 5 (by decide)).1, (B.2.1.2 6 (by decide)).1, (B.2.2.1.2 0 (by decide)).1, (B.2.2.1.2 1 (by decide)).1, (B.2.2.1.2 2 (by decide)).1, (B.2.2.1.2 3 (by decide)).1, (B.2.2.1.2 4 (by decide)).1, (B.2.2.1.2 5 (by decide)).1, B.2.2.2.1.1, (B.2.2.2.1.2 0 (by decide)).1, (B.2.2.2.1.2 1 (by decide)).1, (B.2.2.2.1.2 2 (by decide)).1, B.2.2.2.2.1, (B.2.2.2.2.2 0 (by decide)).1, (B.2.2.2.2.2 1 (by decide)).1, (B.2.2.2.2.2 2 (by decide)).1, (B.2.2.2.2.2 3 (by decide)).1, (B.2.2.2.2.2 4 (by decide)).1, trivial⟩
  intro a c hc
  exact fxa_mem F (a, c) (fxf_mem hc)
theorem ini_BS (B : BI h) : BS h := by
  obtain ⟨-, ⟨e1, r1⟩, ⟨e2, r2⟩, ⟨-, r3⟩, -, r4⟩ := B
  refine ⟨⟨nI 0, zf, zf, zf, zf, zf, zf, zf, e1, (r1 0 (by decide)).2, (r1 1 (by decide)).2, (r1 2 (by decide)).2, (r1 3 (by decide)).2, (r1 4 (by decide)).2, (r1 5 (by decide)).2, (r1 6 (by decide)).2⟩, ⟨nI 0, zf, zf, zf, zf, zf, zf, e2, (r2 0 (by decide)).2, (r2 1 (by decide)).2, (r2 2 (by decide)).2, (r2 3 (by decide)).2, (r2 4 (by decide)).2, (r2 5 (by decide)).2⟩, ⟨zf, zf, zf, (r3 0 (by decide)).2, (r3 1 (by decide)).2, (r3 2 (by decide)).2⟩, ⟨zf, zf, zf, zf, zf, (r4 0 (by decide)).2, (r4 1 (by decide)).2, (r4 2 (by decide)).2, (r4 3 (by decide)).2, (r4 4 (by decide)).2⟩⟩
theorem gz0_c {c : Nat} (hc : c < 4) : WFc gz0 c 0 := by
  refine ⟨by omega, ?_, fun j hj => by omega, fun j hj => by omega, fun i j _ hj => by omega⟩
  unfold gz0
  rw [if_pos (by omega)]
  rfl
theorem mz_znI : ∀ i, i < 8 → mz_zn i = nI (i % 5 + 1) := by decide
theorem gz0_z {i : Nat} (hi : i < 8) : gz0 (388 + i) = nI (i % 5 + 1) := by
  unfold gz0
  rw [if_neg (by omega), if_pos (by omega), show 388 + i - 388 = i by omega, mz_znI i hi]
theorem gz0_WF : WF gz0 := by
  refine ⟨fun c hc => ⟨0, gz0_c hc⟩, fun i hi => ⟨i % 5 + 1, by omega, by omega, gz0_z hi⟩, ⟨0, by omega, rfl⟩, fun r hr => ⟨0, by omega, ?_⟩⟩
  unfold gz0
  rw [if_neg (by omega), if_neg (by omega), if_neg (by omega), if_neg (by omega), if_neg (by omega), if_neg (by omega), if_neg (by omega)]
  rfl
theorem rat_cc {m : Nat} {f g : Nat → Int32} (hm : m < 2 ^ 31) (hh : ∀ j, j < m → f j = g j) : rat m f = rat m g := by
  funext i
  unfold rat
  by_cases h0 : i < 0
  · rw [if_pos h0, if_pos h0]
  · rw [if_neg h0, if_neg h0]
    by_cases h1 : nI m ≤ i
    · rw [if_pos h1, if_pos h1]
    · rw [if_neg h1, if_neg h1]
      obtain ⟨j, hj, rfl⟩ := nI_of h0
      rw [nI_leI hm hj] at h1
      rw [nI_clamp hj]
      exact hh j (by omega)
theorem ini_Rep {S : Nat} (I : SI h S) : Rep S h gz0 := by
  obtain ⟨e0, ⟨t0, t1, t2, t3⟩, tr, bl⟩ := I
  refine ⟨fun c hc => ⟨0, gz0_c hc, zf, zf, zf, ?_, fun j hj => by omega⟩, ⟨_, _, _, _, tr, ?_, ?_, ?_, ?_⟩, ⟨_, _, bl, fun r hr => ⟨?_, ?_⟩⟩⟩
  · match c, hc with
    | 0, _ => exact t0
    | 1, _ => exact t1
    | 2, _ => exact t2
    | 3, _ => exact t3
  · refine rat_cc (by decide) (fun j hj => ?_)
    unfold rcpy zG gz0
    rw [if_pos hj, if_neg (by omega), if_pos (by omega), show 388 + j - 388 = j by omega]
  · refine rat_cc (by decide) (fun j hj => ?_)
    unfold tfz frG gz0
    by_cases hj0 : j = 0
    · rw [if_pos hj0, if_neg (by omega)]
    · rw [if_neg hj0, if_pos (by omega), if_neg (by omega), if_neg (by omega), if_pos (by omega), show 395 + j - 395 = j by omega]
  · refine rat_cc (by decide) (fun j hj => ?_)
    unfold tfz crG gz0
    by_cases hj0 : j = 0
    · rw [if_pos hj0, if_neg (by omega)]
    · rw [if_neg hj0, if_pos (by omega), if_neg (by omega), if_neg (by omega), if_neg (by omega), if_pos (by omega), show 400 + j - 400 = j by omega]
  · refine rat_cc (by decide) (fun j hj => ?_)
    unfold tfz wrG gz0
    by_cases hj0 : j = 0
    · rw [if_pos hj0, if_neg (by omega)]
    · rw [if_neg hj0, if_pos (by omega), if_neg (by omega), if_neg (by omega), if_neg (by omega), if_neg (by omega), if_pos (by omega), show 405 + j - 405 = j by omega]
  · unfold gz0
    rw [if_neg (by omega), if_neg (by omega), if_neg (by omega), if_neg (by omega), if_neg (by omega), if_neg (by omega), if_neg (by omega)]
    rfl
  · unfold gz0
    rw [if_neg (by omega), if_neg (by omega), if_neg (by omega), if_neg (by omega), if_neg (by omega), if_neg (by omega), if_neg (by omega)]
    rfl
theorem s_ledinit {gi : Nat → Nat → Int32} (hz : h 0 = .inl (0, 8, mz_zn)) (hs : h 2 = .inr (10, mz_df 10)) (H : ∀ h', CI h' gz0 0 gi → (∀ b, b < 2 ∨ 185 < b → h' b = h b) → Q none 184 h') : mz_wc (e + 5) 81 [.ref 2] 1 h Q := by
  refine s_ledinit0 hz hs (fun h' e0 S1 S2 S3 T B hh => H h' ⟨ini_Fx S1 S2 S3 T B, ini_BS B, e0, gz0_WF, ini_Rep S1, ⟨_, _, _, _, T⟩, (ini_Rep S2).shp, (ini_Rep S3).shp, by omega, fun i hi hk => ?_⟩ hh)
  match i, hi with
  | 0, _ => exact absurd hk (by decide)
  | 1, _ => exact absurd hk (by decide)
end MK6
