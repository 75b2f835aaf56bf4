/-! the answers, by g -/
def U1 : Int32 := nI 4294967295
def U2 : Int32 := nI 4294967294
def U3 : Int32 := nI 4294967293
def U4 : Int32 := nI 4294967292
def U5 : Int32 := nI 4294967291
def kOf (g : Nat → Int32) (c : Nat) : Nat := (g (384 + c)).toNatClampNeg
def kL (g : Nat → Int32) (c : Nat) : List Rde := gL g c (kOf g c)
theorem WFc.k {g : Nat → Int32} {c k : Nat} (W : WFc g c k) : kOf g c = k := by
  unfold kOf
  rw [W.2.1, nI_clamp (by have := W.1; omega)]
def rideW (g : Nat → Int32) (l : List Rde) (j : Nat) (what : Int32) : Int32 := match l[j]? with
  | none => NN
  | some r => if what = nI 0 then r.2.1 else if what = nI 1 then r.2.2.1 else if what = nI 2 then r.1 else if what = nI 3 then bI (lameB r.2.1 r.2.2.1) else nI ((jl (g 412) (rat 8 (zG g)) l (j + 1)).length - 1)
def rideV (g : Nat → Int32) (l : List Rde) (i what : Int32) : Int32 := if i < 0 then nI l.length else if nI l.length ≤ i then NN else rideW g l i.toNatClampNeg what
def partR (card i what : Int32) (v : Int32) : Int32 := if inB card (nI 0) (nI 3) = false then U1 else if i < U1 ∨ inB what (nI 0) (nI 4) = false then U2 else v
def rideR (g : Nat → Int32) (card i what : Int32) : Int32 := partR card i what (rideV g (kL g card.toNatClampNeg) i what)
def jrnW (g : Nat → Int32) (J : List Jrn) (j : Nat) (what : Int32) : Int32 := match J[j]? with
  | none => NN
  | some q => if what = nI 0 then q.1 / nI 1440 else if what = nI 1 then nI q.2.1 else if what = nI 2 then jwid q else if what = nI 3 then jcost (frG g) (g 411) q else bI (busyB q.1)
def jrnV (g : Nat → Int32) (J : List Jrn) (i what : Int32) : Int32 := if i < 0 then nI J.length else if nI J.length ≤ i then NN else jrnW g J i.toNatClampNeg what
def jrnR (g : Nat → Int32) (card i what : Int32) : Int32 := partR card i what (jrnV g (gJ g (kL g card.toNatClampNeg)) i what)
def dayV (g : Nat → Int32) (J : List Jrn) (d : Nat) (what : Int32) : Int32 := if what = nI 0 then dsm (frG g) (g 411) J d else if what = nI 1 then dwd J d else if what = nI 2 then gO g J d else bI (inS (wkd (bgn (gO g J) (gK g J)) 0) d)
def dayR (g : Nat → Int32) (card day what : Int32) : Int32 := if inB card (nI 0) (nI 3) = false then U1 else if inB day (nI 0) (nI 27) = false ∨ inB what (nI 0) (nI 3) = false then U2 else dayV g (gJ g (kL g card.toNatClampNeg)) day.toNatClampNeg what
def costV (g : Nat → Int32) (J : List Jrn) : Int32 := (dpv (gO g J) (gK g J) 0).1
def bestV (g : Nat → Int32) (J : List Jrn) (what : Int32) : Int32 := if what = nI 0 then costV g J else if what = nI 1 then (dpv (gO g J) (gK g J) 0).2.1 else match (wkd (bgn (gO g J) (gK g J)) 0)[(what - nI 10).toNatClampNeg]? with
  | some s => nI s
  | none => NN
def bestR (g : Nat → Int32) (card what : Int32) : Int32 := if inB card (nI 0) (nI 3) = false then U1 else if inB what (nI 0) (nI 1) = false ∧ inB what (nI 10) (nI 13) = false then U2 else bestV g (gJ g (kL g card.toNatClampNeg)) what
def savedV (g : Nat → Int32) (J : List Jrn) (what : Int32) : Int32 := if what = nI 0 then rsum (dsm (frG g) (g 411) J) 28 - rsum (gO g J) 28 else rsum (gO g J) 28 - costV g J
def savedR (g : Nat → Int32) (card what : Int32) : Int32 := if inB card (nI 0) (nI 3) = false then U1 else if inB what (nI 0) (nI 1) = false then U2 else savedV g (gJ g (kL g card.toNatClampNeg)) what
theorem rsum_c {f g : Nat → Int32} : ∀ k, (∀ j, j < k → f j = g j) → rsum f k = rsum g k
  | 0, _ => rfl
  | k + 1, h => by
    show rsum f k + f k = rsum g k + g k
    rw [rsum_c k (fun j hj => h j (by omega)), h k (by omega)]
theorem tF {b : Bool} (h : ¬ b = false) : b = true := by
  cases b
  · exact absurd rfl h
  · rfl
theorem U1_lt {i : Int32} (h : ¬ i < U1) : i < 0 → i = U1 := by
  intro h0
  have e1 : U1.toInt = -1 := by decide
  rw [Int32.lt_iff_toInt_lt, e1] at h
  rw [Int32.lt_iff_toInt_lt] at h0
  have e0 : (0 : Int32).toInt = 0 := by decide
  rw [e0] at h0
  exact Int32.toInt_inj.mp (by omega)
