/-! the cells that never change once made; the regions of the bill; by program (wip/whole/gen20.py) -/
def fxl : List (Nat × mz_C) := [(3, .inr (7, [.ref 4, .ref 11, .ref 18, .ref 25, .ref 32, .ref 41])), (5, .inr (6, [.ref 6])), (7, .inr (6, [.ref 8])), (9, .inr (6, [.ref 10])), (12, .inr (6, [.ref 13])), (14, .inr (6, [.ref 15])), (16, .inr (6, [.ref 17])), (19, .inr (6, [.ref 20])), (21, .inr (6, [.ref 22])), (23, .inr (6, [.ref 24])), (26, .inr (6, [.ref 27])), (28, .inr (6, [.ref 29])), (30, .inr (6, [.ref 31])), (33, .inr (6, [.ref 34])), (35, .inr (6, [.ref 36])), (37, .inr (6, [.ref 38])), (39, .inr (6, [.ref 40])), (42, .inr (6, [.ref 43])), (44, .inr (6, [.ref 45])), (46, .inr (7, [.ref 47, .ref 54, .ref 61, .ref 68, .ref 75, .ref 84])), (48, .inr (6, [.ref 49])), (50, .inr (6, [.ref 51])), (52, .inr (6, [.ref 53])), (55, .inr (6, [.ref 56])), (57, .inr (6, [.ref 58])), (59, .inr (6, [.ref 60])), (62, .inr (6, [.ref 63])), (64, .inr (6, [.ref 65])), (66, .inr (6, [.ref 67])), (69, .inr (6, [.ref 70])), (71, .inr (6, [.ref 72])), (73, .inr (6, [.ref 74])), (76, .inr (6, [.ref 77])), (78, .inr (6, [.ref 79])), (80, .inr (6, [.ref 81])), (82, .inr (6, [.ref 83])), (85, .inr (6, [.ref 86])), (87, .inr (6, [.ref 88])), (89, .inr (7, [.ref 90, .ref 97, .ref 104, .ref 111, .ref 118, .ref 127])), (91, .inr (6, [.ref 92])), (93, .inr (6, [.ref 94])), (95, .inr (6, [.ref 96])), (98, .inr (6, [.ref 99])), (100, .inr (6, [.ref 101])), (102, .inr (6, [.ref 103])), (105, .inr (6, [.ref 106])), (107, .inr (6, [.ref 108])), (109, .inr (6, [.ref 110])), (112, .inr (6, [.ref 113])), (114, .inr (6, [.ref 115])), (116, .inr (6, [.ref 117])), (119, .inr (6, [.ref 120])), (121, .inr (6, [.ref 122])), (123, .inr (6, [.ref 124])), (125, .inr (6, [.ref 126])), (128, .inr (6, [.ref 129])), (130, .inr (6, [.ref 131])), (133, .inr (6, [.ref 134])), (135, .inr (6, [.ref 136])), (137, .inr (6, [.ref 138])), (139, .inr (1, [.ref 140, .ref 155, .ref 168, .ref 175])), (141, .inr (6, [.ref 142])), (143, .inr (6, [.ref 144])), (145, .inr (6, [.ref 146])), (147, .inr (6, [.ref 148])), (149, .inr (6, [.ref 150])), (151, .inr (6, [.ref 152])), (153, .inr (6, [.ref 154])), (156, .inr (6, [.ref 157])), (158, .inr (6, [.ref 159])), (160, .inr (6, [.ref 161])), (162, .inr (6, [.ref 163])), (164, .inr (6, [.ref 165])), (166, .inr (6, [.ref 167])), (168, .inr (2, [.ref 169, .ref 171, .ref 173])), (169, .inr (6, [.ref 170])), (171, .inr (6, [.ref 172])), (173, .inr (6, [.ref 174])), (175, .inr (4, [.ref 176, .ref 178, .ref 180, .ref 182, .ref 184])), (176, .inr (6, [.ref 177])), (178, .inr (6, [.ref 179])), (180, .inr (6, [.ref 181])), (182, .inr (6, [.ref 183])), (184, .inr (6, [.ref 185]))]
def fxf : List (Nat × mz_C) → Nat → Option mz_C
  | [], _ => none
  | e :: r, a => match Nat.beq e.1 a with
    | true => some e.2
    | false => fxf r a
def fxt (a : Nat) : Option mz_C := fxf fxl a
def Fx (h : mz_H) : Prop := ∀ a c, fxt a = some c → h a = c
theorem Fx.up {h : mz_H} (F : Fx h) {a : Nat} {x : mz_C} (ha : fxt a = none) : Fx (mz_up h a x) := by
  intro b c hc
  have hb : b ≠ a := fun q => by rw [q, ha] at hc; cases hc
  rw [mz_up_n hb]
  exact F b c hc
def rdH (h0 : mz_H) (z : Int32) (bs es bm em kd le lb : Nat → Int32) : mz_H := fun b => if b = 140 then .inr (5, [.ref 141, .ref 143, .ref 145, .ref 147, .ref 149, .ref 151, .ref 153, .int z]) else if b = 142 then .inl (0, 48, bs) else if b = 144 then .inl (0, 48, es) else if b = 146 then .inl (0, 48, bm) else if b = 148 then .inl (0, 48, em) else if b = 150 then .inl (0, 48, kd) else if b = 152 then .inl (0, 8, le) else if b = 154 then .inl (0, 8, lb) else h0 b
theorem rd_lt {h0 : mz_H} {z : Int32} {bs es bm em kd le lb : Nat → Int32} {b : Nat} (hb : b < 140 ∨ 154 < b) : rdH h0 z bs es bm em kd le lb b = h0 b := by
  unfold rdH
  rw [if_neg (by omega), if_neg (by omega), if_neg (by omega), if_neg (by omega), if_neg (by omega), if_neg (by omega), if_neg (by omega), if_neg (by omega)]
theorem rd_F {h0 : mz_H} {z : Int32} {bs es bm em kd le lb : Nat → Int32} (F : Fx h0) : Fx (rdH h0 z bs es bm em kd le lb) := by
  intro a c hc
  unfold rdH
  rw [if_neg (fun q => by subst q; exact Option.some_ne_none c (Eq.symm hc)), if_neg (fun q => by subst q; exact Option.some_ne_none c (Eq.symm hc)), if_neg (fun q => by subst q; exact Option.some_ne_none c (Eq.symm hc)), if_neg (fun q => by subst q; exact Option.some_ne_none c (Eq.symm hc)), if_neg (fun q => by subst q; exact Option.some_ne_none c (Eq.symm hc)), if_neg (fun q => by subst q; exact Option.some_ne_none c (Eq.symm hc)), if_neg (fun q => by subst q; exact Option.some_ne_none c (Eq.symm hc)), if_neg (fun q => by subst q; exact Option.some_ne_none c (Eq.symm hc))]
  exact F a c hc
theorem rd_u0 {h0 : mz_H} {z : Int32} {bs es bm em kd le lb : Nat → Int32} {z2 : Int32} : mz_up (rdH h0 z bs es bm em kd le lb) 140 (.inr (5, [.ref 141, .ref 143, .ref 145, .ref 147, .ref 149, .ref 151, .ref 153, .int z2])) = rdH h0 z2 bs es bm em kd le lb := by
  funext b
  by_cases hb : b = 140
  · subst hb; rfl
  · simp only [mz_up, rdH, hb, if_false]
theorem rd_u1 {h0 : mz_H} {z : Int32} {bs es bm em kd le lb : Nat → Int32} {x2 : Nat → Int32} : mz_up (rdH h0 z bs es bm em kd le lb) 142 (.inl (0, 48, x2)) = rdH h0 z x2 es bm em kd le lb := by
  funext b
  by_cases hb : b = 142
  · subst hb; rfl
  · simp only [mz_up, rdH, hb, if_false]
theorem rd_u2 {h0 : mz_H} {z : Int32} {bs es bm em kd le lb : Nat → Int32} {x2 : Nat → Int32} : mz_up (rdH h0 z bs es bm em kd le lb) 144 (.inl (0, 48, x2)) = rdH h0 z bs x2 bm em kd le lb := by
  funext b
  by_cases hb : b = 144
  · subst hb; rfl
  · simp only [mz_up, rdH, hb, if_false]
theorem rd_u3 {h0 : mz_H} {z : Int32} {bs es bm em kd le lb : Nat → Int32} {x2 : Nat → Int32} : mz_up (rdH h0 z bs es bm em kd le lb) 146 (.inl (0, 48, x2)) = rdH h0 z bs es x2 em kd le lb := by
  funext b
  by_cases hb : b = 146
  · subst hb; rfl
  · simp only [mz_up, rdH, hb, if_false]
theorem rd_u4 {h0 : mz_H} {z : Int32} {bs es bm em kd le lb : Nat → Int32} {x2 : Nat → Int32} : mz_up (rdH h0 z bs es bm em kd le lb) 148 (.inl (0, 48, x2)) = rdH h0 z bs es bm x2 kd le lb := by
  funext b
  by_cases hb : b = 148
  · subst hb; rfl
  · simp only [mz_up, rdH, hb, if_false]
theorem rd_u5 {h0 : mz_H} {z : Int32} {bs es bm em kd le lb : Nat → Int32} {x2 : Nat → Int32} : mz_up (rdH h0 z bs es bm em kd le lb) 150 (.inl (0, 48, x2)) = rdH h0 z bs es bm em x2 le lb := by
  funext b
  by_cases hb : b = 150
  · subst hb; rfl
  · simp only [mz_up, rdH, hb, if_false]
theorem rd_u6 {h0 : mz_H} {z : Int32} {bs es bm em kd le lb : Nat → Int32} {x2 : Nat → Int32} : mz_up (rdH h0 z bs es bm em kd le lb) 152 (.inl (0, 8, x2)) = rdH h0 z bs es bm em kd x2 lb := by
  funext b
  by_cases hb : b = 152
  · subst hb; rfl
  · simp only [mz_up, rdH, hb, if_false]
theorem rd_u7 {h0 : mz_H} {z : Int32} {bs es bm em kd le lb : Nat → Int32} {x2 : Nat → Int32} : mz_up (rdH h0 z bs es bm em kd le lb) 154 (.inl (0, 8, x2)) = rdH h0 z bs es bm em kd le x2 := by
  funext b
  by_cases hb : b = 154
  · subst hb; rfl
  · simp only [mz_up, rdH, hb, if_false]
theorem rd_id {h0 : mz_H} {z : Int32} {bs es bm em kd le lb : Nat → Int32} (e0 : h0 140 = .inr (5, [.ref 141, .ref 143, .ref 145, .ref 147, .ref 149, .ref 151, .ref 153, .int z])) (e1 : h0 142 = .inl (0, 48, bs)) (e2 : h0 144 = .inl (0, 48, es)) (e3 : h0 146 = .inl (0, 48, bm)) (e4 : h0 148 = .inl (0, 48, em)) (e5 : h0 150 = .inl (0, 48, kd)) (e6 : h0 152 = .inl (0, 8, le)) (e7 : h0 154 = .inl (0, 8, lb)) : rdH h0 z bs es bm em kd le lb = h0 := by
  funext b
  unfold rdH
  by_cases b0 : b = 140
  · subst b0; exact e0.symm
  rw [if_neg b0]
  by_cases b1 : b = 142
  · subst b1; exact e1.symm
  rw [if_neg b1]
  by_cases b2 : b = 144
  · subst b2; exact e2.symm
  rw [if_neg b2]
  by_cases b3 : b = 146
  · subst b3; exact e3.symm
  rw [if_neg b3]
  by_cases b4 : b = 148
  · subst b4; exact e4.symm
  rw [if_neg b4]
  by_cases b5 : b = 150
  · subst b5; exact e5.symm
  rw [if_neg b5]
  by_cases b6 : b = 152
  · subst b6; exact e6.symm
  rw [if_neg b6]
  by_cases b7 : b = 154
  · subst b7; exact e7.symm
  rw [if_neg b7]

def jyH (h0 : mz_H) (z : Int32) (mo rc lz gz co jr : Nat → Int32) : mz_H := fun b => if b = 155 then .inr (3, [.ref 156, .ref 158, .ref 160, .ref 162, .ref 164, .ref 166, .int z]) else if b = 157 then .inl (0, 48, mo) else if b = 159 then .inl (0, 48, rc) else if b = 161 then .inl (0, 48, lz) else if b = 163 then .inl (0, 48, gz) else if b = 165 then .inl (0, 48, co) else if b = 167 then .inl (0, 48, jr) else h0 b
theorem jy_lt {h0 : mz_H} {z : Int32} {mo rc lz gz co jr : Nat → Int32} {b : Nat} (hb : b < 155 ∨ 167 < b) : jyH h0 z mo rc lz gz co jr b = h0 b := by
  unfold jyH
  rw [if_neg (by omega), if_neg (by omega), if_neg (by omega), if_neg (by omega), if_neg (by omega), if_neg (by omega), if_neg (by omega)]
theorem jy_F {h0 : mz_H} {z : Int32} {mo rc lz gz co jr : Nat → Int32} (F : Fx h0) : Fx (jyH h0 z mo rc lz gz co jr) := by
  intro a c hc
  unfold jyH
  rw [if_neg (fun q => by subst q; exact Option.some_ne_none c (Eq.symm hc)), if_neg (fun q => by subst q; exact Option.some_ne_none c (Eq.symm hc)), if_neg (fun q => by subst q; exact Option.some_ne_none c (Eq.symm hc)), if_neg (fun q => by subst q; exact Option.some_ne_none c (Eq.symm hc)), if_neg (fun q => by subst q; exact Option.some_ne_none c (Eq.symm hc)), if_neg (fun q => by subst q; exact Option.some_ne_none c (Eq.symm hc)), if_neg (fun q => by subst q; exact Option.some_ne_none c (Eq.symm hc))]
  exact F a c hc
theorem jy_u0 {h0 : mz_H} {z : Int32} {mo rc lz gz co jr : Nat → Int32} {z2 : Int32} : mz_up (jyH h0 z mo rc lz gz co jr) 155 (.inr (3, [.ref 156, .ref 158, .ref 160, .ref 162, .ref 164, .ref 166, .int z2])) = jyH h0 z2 mo rc lz gz co jr := by
  funext b
  by_cases hb : b = 155
  · subst hb; rfl
  · simp only [mz_up, jyH, hb, if_false]
theorem jy_u1 {h0 : mz_H} {z : Int32} {mo rc lz gz co jr : Nat → Int32} {x2 : Nat → Int32} : mz_up (jyH h0 z mo rc lz gz co jr) 157 (.inl (0, 48, x2)) = jyH h0 z x2 rc lz gz co jr := by
  funext b
  by_cases hb : b = 157
  · subst hb; rfl
  · simp only [mz_up, jyH, hb, if_false]
theorem jy_u2 {h0 : mz_H} {z : Int32} {mo rc lz gz co jr : Nat → Int32} {x2 : Nat → Int32} : mz_up (jyH h0 z mo rc lz gz co jr) 159 (.inl (0, 48, x2)) = jyH h0 z mo x2 lz gz co jr := by
  funext b
  by_cases hb : b = 159
  · subst hb; rfl
  · simp only [mz_up, jyH, hb, if_false]
theorem jy_u3 {h0 : mz_H} {z : Int32} {mo rc lz gz co jr : Nat → Int32} {x2 : Nat → Int32} : mz_up (jyH h0 z mo rc lz gz co jr) 161 (.inl (0, 48, x2)) = jyH h0 z mo rc x2 gz co jr := by
  funext b
  by_cases hb : b = 161
  · subst hb; rfl
  · simp only [mz_up, jyH, hb, if_false]
theorem jy_u4 {h0 : mz_H} {z : Int32} {mo rc lz gz co jr : Nat → Int32} {x2 : Nat → Int32} : mz_up (jyH h0 z mo rc lz gz co jr) 163 (.inl (0, 48, x2)) = jyH h0 z mo rc lz x2 co jr := by
  funext b
  by_cases hb : b = 163
  · subst hb; rfl
  · simp only [mz_up, jyH, hb, if_false]
theorem jy_u5 {h0 : mz_H} {z : Int32} {mo rc lz gz co jr : Nat → Int32} {x2 : Nat → Int32} : mz_up (jyH h0 z mo rc lz gz co jr) 165 (.inl (0, 48, x2)) = jyH h0 z mo rc lz gz x2 jr := by
  funext b
  by_cases hb : b = 165
  · subst hb; rfl
  · simp only [mz_up, jyH, hb, if_false]
theorem jy_u6 {h0 : mz_H} {z : Int32} {mo rc lz gz co jr : Nat → Int32} {x2 : Nat → Int32} : mz_up (jyH h0 z mo rc lz gz co jr) 167 (.inl (0, 48, x2)) = jyH h0 z mo rc lz gz co x2 := by
  funext b
  by_cases hb : b = 167
  · subst hb; rfl
  · simp only [mz_up, jyH, hb, if_false]
theorem jy_id {h0 : mz_H} {z : Int32} {mo rc lz gz co jr : Nat → Int32} (e0 : h0 155 = .inr (3, [.ref 156, .ref 158, .ref 160, .ref 162, .ref 164, .ref 166, .int z])) (e1 : h0 157 = .inl (0, 48, mo)) (e2 : h0 159 = .inl (0, 48, rc)) (e3 : h0 161 = .inl (0, 48, lz)) (e4 : h0 163 = .inl (0, 48, gz)) (e5 : h0 165 = .inl (0, 48, co)) (e6 : h0 167 = .inl (0, 48, jr)) : jyH h0 z mo rc lz gz co jr = h0 := by
  funext b
  unfold jyH
  by_cases b0 : b = 155
  · subst b0; exact e0.symm
  rw [if_neg b0]
  by_cases b1 : b = 157
  · subst b1; exact e1.symm
  rw [if_neg b1]
  by_cases b2 : b = 159
  · subst b2; exact e2.symm
  rw [if_neg b2]
  by_cases b3 : b = 161
  · subst b3; exact e3.symm
  rw [if_neg b3]
  by_cases b4 : b = 163
  · subst b4; exact e4.symm
  rw [if_neg b4]
  by_cases b5 : b = 165
  · subst b5; exact e5.symm
  rw [if_neg b5]
  by_cases b6 : b = 167
  · subst b6; exact e6.symm
  rw [if_neg b6]

def dyH (h0 : mz_H) (sm wd ow : Nat → Int32) : mz_H := fun b => if b = 170 then .inl (0, 28, sm) else if b = 172 then .inl (0, 28, wd) else if b = 174 then .inl (0, 28, ow) else h0 b
theorem dy_lt {h0 : mz_H} {sm wd ow : Nat → Int32} {b : Nat} (hb : b < 168 ∨ 174 < b) : dyH h0 sm wd ow b = h0 b := by
  unfold dyH
  rw [if_neg (by omega), if_neg (by omega), if_neg (by omega)]
theorem dy_F {h0 : mz_H} {sm wd ow : Nat → Int32} (F : Fx h0) : Fx (dyH h0 sm wd ow) := by
  intro a c hc
  unfold dyH
  rw [if_neg (fun q => by subst q; exact Option.some_ne_none c (Eq.symm hc)), if_neg (fun q => by subst q; exact Option.some_ne_none c (Eq.symm hc)), if_neg (fun q => by subst q; exact Option.some_ne_none c (Eq.symm hc))]
  exact F a c hc
theorem dy_u1 {h0 : mz_H} {sm wd ow : Nat → Int32} {x2 : Nat → Int32} : mz_up (dyH h0 sm wd ow) 170 (.inl (0, 28, x2)) = dyH h0 x2 wd ow := by
  funext b
  by_cases hb : b = 170
  · subst hb; rfl
  · simp only [mz_up, dyH, hb, if_false]
theorem dy_u2 {h0 : mz_H} {sm wd ow : Nat → Int32} {x2 : Nat → Int32} : mz_up (dyH h0 sm wd ow) 172 (.inl (0, 28, x2)) = dyH h0 sm x2 ow := by
  funext b
  by_cases hb : b = 172
  · subst hb; rfl
  · simp only [mz_up, dyH, hb, if_false]
theorem dy_u3 {h0 : mz_H} {sm wd ow : Nat → Int32} {x2 : Nat → Int32} : mz_up (dyH h0 sm wd ow) 174 (.inl (0, 28, x2)) = dyH h0 sm wd x2 := by
  funext b
  by_cases hb : b = 174
  · subst hb; rfl
  · simp only [mz_up, dyH, hb, if_false]
theorem dy_id {h0 : mz_H} {sm wd ow : Nat → Int32} (e1 : h0 170 = .inl (0, 28, sm)) (e2 : h0 172 = .inl (0, 28, wd)) (e3 : h0 174 = .inl (0, 28, ow)) : dyH h0 sm wd ow = h0 := by
  funext b
  unfold dyH
  by_cases b0 : b = 170
  · subst b0; exact e1.symm
  rw [if_neg b0]
  by_cases b1 : b = 172
  · subst b1; exact e2.symm
  rw [if_neg b1]
  by_cases b2 : b = 174
  · subst b2; exact e3.symm
  rw [if_neg b2]

def plH (h0 : mz_H) (cf wf wb sr iw : Nat → Int32) : mz_H := fun b => if b = 177 then .inl (0, 29, cf) else if b = 179 then .inl (0, 29, wf) else if b = 181 then .inl (0, 28, wb) else if b = 183 then .inl (0, 4, sr) else if b = 185 then .inl (0, 28, iw) else h0 b
theorem pl_lt {h0 : mz_H} {cf wf wb sr iw : Nat → Int32} {b : Nat} (hb : b < 175 ∨ 185 < b) : plH h0 cf wf wb sr iw b = h0 b := by
  unfold plH
  rw [if_neg (by omega), if_neg (by omega), if_neg (by omega), if_neg (by omega), if_neg (by omega)]
theorem pl_F {h0 : mz_H} {cf wf wb sr iw : Nat → Int32} (F : Fx h0) : Fx (plH h0 cf wf wb sr iw) := by
  intro a c hc
  unfold plH
  rw [if_neg (fun q => by subst q; exact Option.some_ne_none c (Eq.symm hc)), if_neg (fun q => by subst q; exact Option.some_ne_none c (Eq.symm hc)), if_neg (fun q => by subst q; exact Option.some_ne_none c (Eq.symm hc)), if_neg (fun q => by subst q; exact Option.some_ne_none c (Eq.symm hc)), if_neg (fun q => by subst q; exact Option.some_ne_none c (Eq.symm hc))]
  exact F a c hc
theorem pl_u1 {h0 : mz_H} {cf wf wb sr iw : Nat → Int32} {x2 : Nat → Int32} : mz_up (plH h0 cf wf wb sr iw) 177 (.inl (0, 29, x2)) = plH h0 x2 wf wb sr iw := by
  funext b
  by_cases hb : b = 177
  · subst hb; rfl
  · simp only [mz_up, plH, hb, if_false]
theorem pl_u2 {h0 : mz_H} {cf wf wb sr iw : Nat → Int32} {x2 : Nat → Int32} : mz_up (plH h0 cf wf wb sr iw) 179 (.inl (0, 29, x2)) = plH h0 cf x2 wb sr iw := by
  funext b
  by_cases hb : b = 179
  · subst hb; rfl
  · simp only [mz_up, plH, hb, if_false]
theorem pl_u3 {h0 : mz_H} {cf wf wb sr iw : Nat → Int32} {x2 : Nat → Int32} : mz_up (plH h0 cf wf wb sr iw) 181 (.inl (0, 28, x2)) = plH h0 cf wf x2 sr iw := by
  funext b
  by_cases hb : b = 181
  · subst hb; rfl
  · simp only [mz_up, plH, hb, if_false]
theorem pl_u4 {h0 : mz_H} {cf wf wb sr iw : Nat → Int32} {x2 : Nat → Int32} : mz_up (plH h0 cf wf wb sr iw) 183 (.inl (0, 4, x2)) = plH h0 cf wf wb x2 iw := by
  funext b
  by_cases hb : b = 183
  · subst hb; rfl
  · simp only [mz_up, plH, hb, if_false]
theorem pl_u5 {h0 : mz_H} {cf wf wb sr iw : Nat → Int32} {x2 : Nat → Int32} : mz_up (plH h0 cf wf wb sr iw) 185 (.inl (0, 28, x2)) = plH h0 cf wf wb sr x2 := by
  funext b
  by_cases hb : b = 185
  · subst hb; rfl
  · simp only [mz_up, plH, hb, if_false]
theorem pl_id {h0 : mz_H} {cf wf wb sr iw : Nat → Int32} (e1 : h0 177 = .inl (0, 29, cf)) (e2 : h0 179 = .inl (0, 29, wf)) (e3 : h0 181 = .inl (0, 28, wb)) (e4 : h0 183 = .inl (0, 4, sr)) (e5 : h0 185 = .inl (0, 28, iw)) : plH h0 cf wf wb sr iw = h0 := by
  funext b
  unfold plH
  by_cases b0 : b = 177
  · subst b0; exact e1.symm
  rw [if_neg b0]
  by_cases b1 : b = 179
  · subst b1; exact e2.symm
  rw [if_neg b1]
  by_cases b2 : b = 181
  · subst b2; exact e3.symm
  rw [if_neg b2]
  by_cases b3 : b = 183
  · subst b3; exact e4.symm
  rw [if_neg b3]
  by_cases b4 : b = 185
  · subst b4; exact e5.symm
  rw [if_neg b4]

/-- Taps, read only -/
def TA (h : mz_H) (t : Nat) (z : Int32) (m s w : Nat → Int32) : Prop := tpF h t ∧ h t = .inr (8, [.ref (t + 1), .ref (t + 3), .ref (t + 5), .int z]) ∧ h (t + 2) = .inl (0, 48, m) ∧ h (t + 4) = .inl (0, 48, s) ∧ h (t + 6) = .inl (0, 48, w)
theorem TA.eq {h : mz_H} {t : Nat} {z : Int32} {m s w : Nat → Int32} (T : TA h t z m s w) : tpH h t z m s w = h := by
  obtain ⟨-, e0, e2, e4, e6⟩ := T
  funext b
  unfold tpH
  by_cases b0 : b = t
  · subst b0; rw [if_pos rfl]; exact e0.symm
  rw [if_neg b0]
  by_cases b2 : b = t + 2
  · subst b2; rw [if_pos rfl]; exact e2.symm
  rw [if_neg b2]
  by_cases b4 : b = t + 4
  · subst b4; rw [if_pos rfl]; exact e4.symm
  rw [if_neg b4]
  by_cases b6 : b = t + 6
  · subst b6; rw [if_pos rfl]; exact e6.symm
  rw [if_neg b6]
theorem TA.to {h h' : mz_H} {t : Nat} {z : Int32} {m s w : Nat → Int32} (T : TA h t z m s w) (hh : ∀ b, t ≤ b → b ≤ t + 6 → h' b = h b) : TA h' t z m s w := by
  obtain ⟨⟨f0, f1, f3, f5⟩, e0, e2, e4, e6⟩ := T
  exact ⟨⟨f0, (hh _ (by omega) (by omega)).trans f1, (hh _ (by omega) (by omega)).trans f3, (hh _ (by omega) (by omega)).trans f5⟩, (hh _ (by omega) (by omega)).trans e0, (hh _ (by omega) (by omega)).trans e2, (hh _ (by omega) (by omega)).trans e4, (hh _ (by omega) (by omega)).trans e6⟩
theorem TA.tp {h : mz_H} {t : Nat} {z : Int32} {m s w : Nat → Int32} (F : tpF h t) : TA (tpH h t z m s w) t z m s w := ⟨⟨F.1, tp_1 F, tp_3 F, tp_5 F⟩, tp_o, tp_2, tp_4, tp_6⟩
