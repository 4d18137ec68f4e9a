/-! 13: by computation -/
def evn (c0 c1 c2 c3 c4 c5 a : Nat) : Nat := c0 + a * (c1 + a * (c2 + a * (c3 + a * (c4 + a * c5))))
def nrn (x : Nat) : Nat := (x ^ 6 + 1) % 13
def stp (s D c : Nat) (x : Nat × Nat) : Nat × Nat := (c + (s * x.1 + x.2 * D), s * x.2 + x.1)
def prn (c0 c1 c2 c3 c4 c5 s D : Nat) : Nat × Nat := stp s D c0 (stp s D c1 (stp s D c2 (stp s D c3 (stp s D c4 (c5, 0)))))
def jnn (x : Nat × Nat) (D : Nat) : Nat := if nrn (x.1 * x.1 + (13 - D) * (x.2 * x.2)) = 0 then 0 else 1
def anr (c0 c1 c2 c3 c4 c5 : Nat) : Nat := nrn (evn c0 c1 c2 c3 c4 c5 0) + nrn (evn c0 c1 c2 c3 c4 c5 1) + nrn (evn c0 c1 c2 c3 c4 c5 2) + nrn (evn c0 c1 c2 c3 c4 c5 3) + nrn (evn c0 c1 c2 c3 c4 c5 4) + nrn (evn c0 c1 c2 c3 c4 c5 5) + nrn (evn c0 c1 c2 c3 c4 c5 6) + nrn (evn c0 c1 c2 c3 c4 c5 7) + nrn (evn c0 c1 c2 c3 c4 c5 8) + nrn (evn c0 c1 c2 c3 c4 c5 9) + nrn (evn c0 c1 c2 c3 c4 c5 10) + nrn (evn c0 c1 c2 c3 c4 c5 11) + nrn (evn c0 c1 c2 c3 c4 c5 12)
def inh (c0 c1 c2 c3 c4 c5 s : Nat) : Nat := jnn (prn c0 c1 c2 c3 c4 c5 s 2) 2 + jnn (prn c0 c1 c2 c3 c4 c5 s 5) 5 + jnn (prn c0 c1 c2 c3 c4 c5 s 6) 6 + jnn (prn c0 c1 c2 c3 c4 c5 s 7) 7 + jnn (prn c0 c1 c2 c3 c4 c5 s 8) 8 + jnn (prn c0 c1 c2 c3 c4 c5 s 11) 11
def inr (c0 c1 c2 c3 c4 c5 : Nat) : Nat := inh c0 c1 c2 c3 c4 c5 13 + inh c0 c1 c2 c3 c4 c5 12 + inh c0 c1 c2 c3 c4 c5 11 + inh c0 c1 c2 c3 c4 c5 10 + inh c0 c1 c2 c3 c4 c5 9 + inh c0 c1 c2 c3 c4 c5 8 + inh c0 c1 c2 c3 c4 c5 7 + inh c0 c1 c2 c3 c4 c5 6 + inh c0 c1 c2 c3 c4 c5 5 + inh c0 c1 c2 c3 c4 c5 4 + inh c0 c1 c2 c3 c4 c5 3 + inh c0 c1 c2 c3 c4 c5 2 + inh c0 c1 c2 c3 c4 c5 1
def chk (c0 c1 c2 c3 c4 c5 : Nat) : Bool := decide (c5 = 0) || decide (anr c0 c1 c2 c3 c4 c5 < 24) || decide (inr c0 c1 c2 c3 c4 c5 ≤ 42)
def ckz (z1 z2 z3 z4 z5 : Nat) : Bool := frc ((1 * 1 + 0 * z1 + 0 * z2 + 0 * z3 + 0 * z4 + 0 * z5) % 13) (fun c0 => frc ((4 * 1 + 5 * z1 + 8 * z2 + 12 * z3 + 2 * z4 + 8 * z5) % 13) (fun c1 => frc ((10 * 1 + 12 * z1 + 10 * z2 + 0 * z3 + 2 * z4 + 5 * z5) % 13) (fun c2 => frc ((2 * 1 + 10 * z1 + 7 * z2 + 3 * z3 + 1 * z4 + 3 * z5) % 13) (fun c3 => frc ((5 * 1 + 7 * z1 + 0 * z2 + 12 * z3 + 1 * z4 + 1 * z5) % 13) (fun c4 => frc ((4 * 1 + 6 * z1 + 1 * z2 + 12 * z3 + 7 * z4 + 9 * z5) % 13) (fun c5 => chk c0 c1 c2 c3 c4 c5))))))
def sqs : List Nat := [1, 3, 4, 9, 10, 12]
theorem ck_all : (sqs.all (fun z1 => sqs.all (fun z2 => sqs.all (fun z3 => sqs.all (fun z4 => sqs.all (fun z5 => ckz z1 z2 z3 z4 z5)))))) = true := by decide +kernel
