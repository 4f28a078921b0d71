/-! ===== phases: what is made ===== -/
def mm_rf0 (g k : Nat) : Option (Nat × Int) := mm_dv none (mm_nth (mm_dv [] (mm_nth mm_rl g)) k)
def ph_lz (r y : Bool) (k : Nat) : Option (Nat × Int) := match k with
  | 5 => match r with
    | true => some (47, 0)
    | false => none
  | 6 => match y with
    | true => some (77, 0)
    | false => none
  | _ => mm_rf0 21 k
def ph_rf (r y : Bool) (g k : Nat) : Option (Nat × Int) := match Nat.beq g 21 with
  | true => ph_lz r y k
  | false => mm_rf0 g k
/-- r.1 RealSearch is made, r.2 the reference is, y MaySearch is -/
def PH (r : Bool × Bool) (y : Bool) : mm_B := (ph_rf r.1 y, (match r.2 with
  | true => List.range' 1 20
  | false => []) ++ (List.range' 21 26 ++ ((match r.1 with
  | true => List.range' 47 8
  | false => []) ++ (match y with
  | true => List.range' 55 31
  | false => []))))
