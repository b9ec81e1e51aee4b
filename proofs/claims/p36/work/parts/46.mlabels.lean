/-! the reference's components -/
def dX (d : Nat) : Int := if (d : Int) ≠ 0 then (if (d : Int) ≠ 2 then 0 else (-1)) else 1
def dY (d : Nat) : Int := if (d : Int) ≠ 1 then (if (d : Int) ≠ 3 then 0 else (-1)) else 1
abbrev FK (f : Nat → Int) (k : Nat) : Nat → Prop := Fi (PK f k) ad
/-- the number of components of phase k -/
noncomputable def nc (f : Nat → Int) (k : Nat) : Nat := cP (FK f k) 2304
theorem pk_mono {f : Nat → Int} {k q : Nat} (h : PK f (k + 1) q) : PK f k q := lay_mono (lay_mono h)
/-- the children of component b of phase k among the first cells below q -/
noncomputable def chn (f : Nat → Int) (k : Nat) (b q : Nat) : Nat := cP (fun x => FK f (k + 1) x ∧ lb (PK f k) x = b) q
