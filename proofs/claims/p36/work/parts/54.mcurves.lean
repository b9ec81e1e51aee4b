/-! the reference's contours -/
/-- whether a contour that begins here is that of a hole -/
def hol (P : Int → Int → Bool) (x y : Int) : Int := if lvd P x y ≠ 1 then 0 else 1
