/-! the reference: its object, its rows; by program (wip/whole/gen50.py) -/
abbrev mo (r j : Int32) : mz_C := .inr (11, [.ref 187, .ref 188, .ref 189, .ref 190, .ref 191, .ref 192, .ref 193, .ref 194, .ref 195, .ref 196, .int r, .ref 197, .ref 198, .ref 199, .ref 200, .int j, .ref 201, .ref 202, .ref 203, .ref 204, .ref 205, .ref 206])
def mrH (h0 : mz_H) (r j : Int32) (kd st sp bg en lm : Nat → Int32) : mz_H := fun b => if b = 186 then mo r j else if b = 190 then .inl (0, 48, kd) else if b = 191 then .inl (0, 48, st) else if b = 192 then .inl (0, 48, sp) else if b = 193 then .inl (0, 48, bg) else if b = 194 then .inl (0, 48, en) else if b = 195 then .inl (1, 48, lm) else h0 b
theorem mr_lt {h0 : mz_H} {r j : Int32} {kd st sp bg en lm : Nat → Int32} {b : Nat} (hb : b ≠ 186 ∧ (b < 190 ∨ 195 < b)) : mrH h0 r j kd st sp bg en lm b = h0 b := by
  unfold mrH
  rw [if_neg (by omega), if_neg (by omega), if_neg (by omega), if_neg (by omega), if_neg (by omega), if_neg (by omega), if_neg (by omega)]
theorem mr_u0 {h0 : mz_H} {r j : Int32} {kd st sp bg en lm : Nat → Int32} {r2 j2 : Int32} : mz_up (mrH h0 r j kd st sp bg en lm) 186 (mo r2 j2) = mrH h0 r2 j2 kd st sp bg en lm := by
  funext b
  by_cases hb : b = 186
  · subst hb; rfl
  · simp only [mz_up, mrH, hb, if_false]
theorem mr_u1 {h0 : mz_H} {r j : Int32} {kd st sp bg en lm : Nat → Int32} {x2 : Nat → Int32} : mz_up (mrH h0 r j kd st sp bg en lm) 190 (.inl (0, 48, x2)) = mrH h0 r j x2 st sp bg en lm := by
  funext b
  by_cases hb : b = 190
  · subst hb; rfl
  · simp only [mz_up, mrH, hb, if_false]
theorem mr_u2 {h0 : mz_H} {r j : Int32} {kd st sp bg en lm : Nat → Int32} {x2 : Nat → Int32} : mz_up (mrH h0 r j kd st sp bg en lm) 191 (.inl (0, 48, x2)) = mrH h0 r j kd x2 sp bg en lm := by
  funext b
  by_cases hb : b = 191
  · subst hb; rfl
  · simp only [mz_up, mrH, hb, if_false]
theorem mr_u3 {h0 : mz_H} {r j : Int32} {kd st sp bg en lm : Nat → Int32} {x2 : Nat → Int32} : mz_up (mrH h0 r j kd st sp bg en lm) 192 (.inl (0, 48, x2)) = mrH h0 r j kd st x2 bg en lm := by
  funext b
  by_cases hb : b = 192
  · subst hb; rfl
  · simp only [mz_up, mrH, hb, if_false]
theorem mr_u4 {h0 : mz_H} {r j : Int32} {kd st sp bg en lm : Nat → Int32} {x2 : Nat → Int32} : mz_up (mrH h0 r j kd st sp bg en lm) 193 (.inl (0, 48, x2)) = mrH h0 r j kd st sp x2 en lm := by
  funext b
  by_cases hb : b = 193
  · subst hb; rfl
  · simp only [mz_up, mrH, hb, if_false]
theorem mr_u5 {h0 : mz_H} {r j : Int32} {kd st sp bg en lm : Nat → Int32} {x2 : Nat → Int32} : mz_up (mrH h0 r j kd st sp bg en lm) 194 (.inl (0, 48, x2)) = mrH h0 r j kd st sp bg x2 lm := by
  funext b
  by_cases hb : b = 194
  · subst hb; rfl
  · simp only [mz_up, mrH, hb, if_false]
theorem mr_u6 {h0 : mz_H} {r j : Int32} {kd st sp bg en lm : Nat → Int32} {x2 : Nat → Int32} : mz_up (mrH h0 r j kd st sp bg en lm) 195 (.inl (1, 48, x2)) = mrH h0 r j kd st sp bg en x2 := by
  funext b
  by_cases hb : b = 195
  · subst hb; rfl
  · simp only [mz_up, mrH, hb, if_false]
theorem mr_id {h0 : mz_H} {r j : Int32} {kd st sp bg en lm : Nat → Int32} (e0 : h0 186 = mo r j) (e1 : h0 190 = .inl (0, 48, kd)) (e2 : h0 191 = .inl (0, 48, st)) (e3 : h0 192 = .inl (0, 48, sp)) (e4 : h0 193 = .inl (0, 48, bg)) (e5 : h0 194 = .inl (0, 48, en)) (e6 : h0 195 = .inl (1, 48, lm)) : mrH h0 r j kd st sp bg en lm = h0 := by
  funext b
  unfold mrH
  by_cases b0 : b = 186
  · subst b0; exact e0.symm
  rw [if_neg b0]
  by_cases b1 : b = 190
  · subst b1; exact e1.symm
  rw [if_neg b1]
  by_cases b2 : b = 191
  · subst b2; exact e2.symm
  rw [if_neg b2]
  by_cases b3 : b = 192
  · subst b3; exact e3.symm
  rw [if_neg b3]
  by_cases b4 : b = 193
  · subst b4; exact e4.symm
  rw [if_neg b4]
  by_cases b5 : b = 194
  · subst b5; exact e5.symm
  rw [if_neg b5]
  by_cases b6 : b = 195
  · subst b6; exact e6.symm
  rw [if_neg b6]
def mrS (h : mz_H) : Prop := ∃ kd st sp bg en lm : Nat → Int32, h 190 = .inl (0, 48, kd) ∧ h 191 = .inl (0, 48, st) ∧ h 192 = .inl (0, 48, sp) ∧ h 193 = .inl (0, 48, bg) ∧ h 194 = .inl (0, 48, en) ∧ h 195 = .inl (1, 48, lm)
def mjH (h0 : mz_H) (r j : Int32) (jo fi le wi co : Nat → Int32) : mz_H := fun b => if b = 186 then mo r j else if b = 196 then .inl (0, 48, jo) else if b = 197 then .inl (0, 48, fi) else if b = 198 then .inl (0, 48, le) else if b = 199 then .inl (0, 48, wi) else if b = 200 then .inl (0, 48, co) else h0 b
theorem mj_lt {h0 : mz_H} {r j : Int32} {jo fi le wi co : Nat → Int32} {b : Nat} (hb : b ≠ 186 ∧ (b < 196 ∨ 200 < b)) : mjH h0 r j jo fi le wi co b = h0 b := by
  unfold mjH
  rw [if_neg (by omega), if_neg (by omega), if_neg (by omega), if_neg (by omega), if_neg (by omega), if_neg (by omega)]
theorem mj_u0 {h0 : mz_H} {r j : Int32} {jo fi le wi co : Nat → Int32} {r2 j2 : Int32} : mz_up (mjH h0 r j jo fi le wi co) 186 (mo r2 j2) = mjH h0 r2 j2 jo fi le wi co := by
  funext b
  by_cases hb : b = 186
  · subst hb; rfl
  · simp only [mz_up, mjH, hb, if_false]
theorem mj_u1 {h0 : mz_H} {r j : Int32} {jo fi le wi co : Nat → Int32} {x2 : Nat → Int32} : mz_up (mjH h0 r j jo fi le wi co) 196 (.inl (0, 48, x2)) = mjH h0 r j x2 fi le wi co := by
  funext b
  by_cases hb : b = 196
  · subst hb; rfl
  · simp only [mz_up, mjH, hb, if_false]
theorem mj_u2 {h0 : mz_H} {r j : Int32} {jo fi le wi co : Nat → Int32} {x2 : Nat → Int32} : mz_up (mjH h0 r j jo fi le wi co) 197 (.inl (0, 48, x2)) = mjH h0 r j jo x2 le wi co := by
  funext b
  by_cases hb : b = 197
  · subst hb; rfl
  · simp only [mz_up, mjH, hb, if_false]
theorem mj_u3 {h0 : mz_H} {r j : Int32} {jo fi le wi co : Nat → Int32} {x2 : Nat → Int32} : mz_up (mjH h0 r j jo fi le wi co) 198 (.inl (0, 48, x2)) = mjH h0 r j jo fi x2 wi co := by
  funext b
  by_cases hb : b = 198
  · subst hb; rfl
  · simp only [mz_up, mjH, hb, if_false]
theorem mj_u4 {h0 : mz_H} {r j : Int32} {jo fi le wi co : Nat → Int32} {x2 : Nat → Int32} : mz_up (mjH h0 r j jo fi le wi co) 199 (.inl (0, 48, x2)) = mjH h0 r j jo fi le x2 co := by
  funext b
  by_cases hb : b = 199
  · subst hb; rfl
  · simp only [mz_up, mjH, hb, if_false]
theorem mj_u5 {h0 : mz_H} {r j : Int32} {jo fi le wi co : Nat → Int32} {x2 : Nat → Int32} : mz_up (mjH h0 r j jo fi le wi co) 200 (.inl (0, 48, x2)) = mjH h0 r j jo fi le wi x2 := by
  funext b
  by_cases hb : b = 200
  · subst hb; rfl
  · simp only [mz_up, mjH, hb, if_false]
theorem mj_id {h0 : mz_H} {r j : Int32} {jo fi le wi co : Nat → Int32} (e0 : h0 186 = mo r j) (e1 : h0 196 = .inl (0, 48, jo)) (e2 : h0 197 = .inl (0, 48, fi)) (e3 : h0 198 = .inl (0, 48, le)) (e4 : h0 199 = .inl (0, 48, wi)) (e5 : h0 200 = .inl (0, 48, co)) : mjH h0 r j jo fi le wi co = h0 := by
  funext b
  unfold mjH
  by_cases b0 : b = 186
  · subst b0; exact e0.symm
  rw [if_neg b0]
  by_cases b1 : b = 196
  · subst b1; exact e1.symm
  rw [if_neg b1]
  by_cases b2 : b = 197
  · subst b2; exact e2.symm
  rw [if_neg b2]
  by_cases b3 : b = 198
  · subst b3; exact e3.symm
  rw [if_neg b3]
  by_cases b4 : b = 199
  · subst b4; exact e4.symm
  rw [if_neg b4]
  by_cases b5 : b = 200
  · subst b5; exact e5.symm
  rw [if_neg b5]
def mjS (h : mz_H) : Prop := ∃ jo fi le wi co : Nat → Int32, h 196 = .inl (0, 48, jo) ∧ h 197 = .inl (0, 48, fi) ∧ h 198 = .inl (0, 48, le) ∧ h 199 = .inl (0, 48, wi) ∧ h 200 = .inl (0, 48, co)
def mdH (h0 : mz_H) (su wd ow la wk iw : Nat → Int32) : mz_H := fun b => if b = 201 then .inl (0, 28, su) else if b = 202 then .inl (0, 28, wd) else if b = 203 then .inl (0, 28, ow) else if b = 204 then .inl (0, 36, la) else if b = 205 then .inl (0, 36, wk) else if b = 206 then .inl (1, 36, iw) else h0 b
theorem md_lt {h0 : mz_H} {su wd ow la wk iw : Nat → Int32} {b : Nat} (hb : b < 201 ∨ 206 < b) : mdH h0 su wd ow la wk iw b = h0 b := by
  unfold mdH
  rw [if_neg (by omega), if_neg (by omega), if_neg (by omega), if_neg (by omega), if_neg (by omega), if_neg (by omega)]
theorem md_u1 {h0 : mz_H} {su wd ow la wk iw : Nat → Int32} {x2 : Nat → Int32} : mz_up (mdH h0 su wd ow la wk iw) 201 (.inl (0, 28, x2)) = mdH h0 x2 wd ow la wk iw := by
  funext b
  by_cases hb : b = 201
  · subst hb; rfl
  · simp only [mz_up, mdH, hb, if_false]
theorem md_u2 {h0 : mz_H} {su wd ow la wk iw : Nat → Int32} {x2 : Nat → Int32} : mz_up (mdH h0 su wd ow la wk iw) 202 (.inl (0, 28, x2)) = mdH h0 su x2 ow la wk iw := by
  funext b
  by_cases hb : b = 202
  · subst hb; rfl
  · simp only [mz_up, mdH, hb, if_false]
theorem md_u3 {h0 : mz_H} {su wd ow la wk iw : Nat → Int32} {x2 : Nat → Int32} : mz_up (mdH h0 su wd ow la wk iw) 203 (.inl (0, 28, x2)) = mdH h0 su wd x2 la wk iw := by
  funext b
  by_cases hb : b = 203
  · subst hb; rfl
  · simp only [mz_up, mdH, hb, if_false]
theorem md_u4 {h0 : mz_H} {su wd ow la wk iw : Nat → Int32} {x2 : Nat → Int32} : mz_up (mdH h0 su wd ow la wk iw) 204 (.inl (0, 36, x2)) = mdH h0 su wd ow x2 wk iw := by
  funext b
  by_cases hb : b = 204
  · subst hb; rfl
  · simp only [mz_up, mdH, hb, if_false]
theorem md_u5 {h0 : mz_H} {su wd ow la wk iw : Nat → Int32} {x2 : Nat → Int32} : mz_up (mdH h0 su wd ow la wk iw) 205 (.inl (0, 36, x2)) = mdH h0 su wd ow la x2 iw := by
  funext b
  by_cases hb : b = 205
  · subst hb; rfl
  · simp only [mz_up, mdH, hb, if_false]
theorem md_u6 {h0 : mz_H} {su wd ow la wk iw : Nat → Int32} {x2 : Nat → Int32} : mz_up (mdH h0 su wd ow la wk iw) 206 (.inl (1, 36, x2)) = mdH h0 su wd ow la wk x2 := by
  funext b
  by_cases hb : b = 206
  · subst hb; rfl
  · simp only [mz_up, mdH, hb, if_false]
theorem md_id {h0 : mz_H} {su wd ow la wk iw : Nat → Int32} (e0 : h0 201 = .inl (0, 28, su)) (e1 : h0 202 = .inl (0, 28, wd)) (e2 : h0 203 = .inl (0, 28, ow)) (e3 : h0 204 = .inl (0, 36, la)) (e4 : h0 205 = .inl (0, 36, wk)) (e5 : h0 206 = .inl (1, 36, iw)) : mdH h0 su wd ow la wk iw = h0 := by
  funext b
  unfold mdH
  by_cases b0 : b = 201
  · subst b0; exact e0.symm
  rw [if_neg b0]
  by_cases b1 : b = 202
  · subst b1; exact e1.symm
  rw [if_neg b1]
  by_cases b2 : b = 203
  · subst b2; exact e2.symm
  rw [if_neg b2]
  by_cases b3 : b = 204
  · subst b3; exact e3.symm
  rw [if_neg b3]
  by_cases b4 : b = 205
  · subst b4; exact e4.symm
  rw [if_neg b4]
  by_cases b5 : b = 206
  · subst b5; exact e5.symm
  rw [if_neg b5]
def mdS (h : mz_H) : Prop := ∃ su wd ow la wk iw : Nat → Int32, h 201 = .inl (0, 28, su) ∧ h 202 = .inl (0, 28, wd) ∧ h 203 = .inl (0, 28, ow) ∧ h 204 = .inl (0, 36, la) ∧ h 205 = .inl (0, 36, wk) ∧ h 206 = .inl (1, 36, iw)
def MS (h : mz_H) : Prop := (∃ r j, h 186 = mo r j) ∧ mrS h ∧ mjS h ∧ mdS h
