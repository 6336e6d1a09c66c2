/-! the class and the reference as pure programs, by program out of the decoded instructions -/
/-! what the objects hold -/
abbrev VX0 : Type := Int64 × Int64
abbrev VX1 : Type := (Nat → Int64) × (Nat → Int64) × Int32 × Int32 × Int32
abbrev VX2 : Type := (Nat → Int64) × (Nat → Int64) × Int32
abbrev VX5 : Type := (Nat → Int32) × Int32
abbrev VX3 : Type := (Nat → Int32) × (Nat → Int32) × (Nat → Int32) × VX5 × Int32 × Int32 × Bool
abbrev VX4 : Type := (Nat → Int32) × Int32 × Int32 × Int32 × Int32 × Int32 × Bool
abbrev VMp : Type := (Nat → Int32) × Int32
abbrev VMg : Type := (Nat → Int32) × (Nat → Int32) × (Nat → Int32) × (Nat → Int32) × Int32 × Int32 × (Nat → Int32)
abbrev VMl : Type := (Nat → Int32) × Int32 × Int32 × Int32 × Int32 × Int32 × Bool
abbrev VMq : Type := (Nat → Int64) × (Nat → Int64) × Int64 × Int64
abbrev VMh : Type := Int32 × Int32
abbrev VMs : Type := Int64 × Int64
abbrev VMi : Type := (Nat → Int32) × (Nat → Int32)
def fX0_commonDivisor_b15 (N : Nat) (k15 : Int64 → Int64 → Int32 → Option (Int64)) (v4 : Int64) (v6 : Int64) (v8 : Int32) : Option (Int64) :=
  if 200 ≤ v8 then
    some v4
  else
    if v6 = (0 : Int64) then
      some v4
    else
      if v6 = 0 then none else
      k15 v6 (v4 - v4 / v6 * v6) (v8 + 1)
def fX0_commonDivisor_l15 (N : Nat) : Nat → Int64 → Int64 → Int32 → Option (Int64)
  | 0, _, _, _ => none
  | n0 + 1, v4, v6, v8 => fX0_commonDivisor_b15 N (fX0_commonDivisor_l15 N n0) v4 v6 v8
def fX0_commonDivisor (N : Nat) (p0 : Int64) (p2 : Int64) : Option (Int64) :=
  fX0_commonDivisor_l15 N N (if 0 < p0 then p0 else -p0) (if 0 < p2 then p2 else -p2) 0
def fX0_become_b20 (N : Nat) (q : VX0) : Option (VX0) :=
  some ((0 : Int64), (1 : Int64))
def fX0_become (N : Nat) (p1 : Int64) (p3 : Int64) (q : VX0) : Option (VX0) :=
  k_b1 (fX0_commonDivisor N p1 p3) fun x_1 =>
  if p3 ≤ (0 : Int64) then
    fX0_become_b20 N q
  else
    if (0 : Int64) < x_1 then
      if x_1 = 0 then none else
      if x_1 = 0 then none else
      some ((p1 / x_1), (p3 / x_1))
    else
      fX0_become_b20 N q
def fX0_half (q : VX0) (p1 : Int32) : Option (Int64) :=
  if p1 = 0 then
    some q.1
  else
    some q.2
def fX0_lessen (N : Nat) (w : VX0) (q : VX0) : Option (VX0) :=
  k_b1 (fX0_become N ((q.1 * w.2) - (w.1 * q.2)) (q.2 * w.2) q) fun q_1 =>
  some q_1
def fX0_isLessThan_b162 (N : Nat) (q : VX0) (w : VX0) (v10 : Bool) (s0 : Bool) : Option (Bool) :=
  if (bI s0) = (bI v10) then
    some false
  else
    some true
def fX0_isLessThan_b142 (N : Nat) (q : VX0) (w : VX0) (v4 : Int64) (v8 : Int64) (v10 : Bool) : Option (Bool) :=
  if v4 = v8 then
    some false
  else
    if v8 = (0 : Int64) then
      fX0_isLessThan_b162 N q w v10 true
    else
      fX0_isLessThan_b162 N q w v10 false
def fX0_isLessThan_b134 (N : Nat) (q : VX0) (w : VX0) (k29 : Int64 → Int64 → Int64 → Int64 → Bool → Int32 → Option (Bool)) (v2 : Int64) (v4 : Int64) (v6 : Int64) (v8 : Int64) (v11 : Int32) (s0 : Bool) : Option (Bool) :=
  k29 v2 v4 v6 v8 s0 (v11 + 1)
def fX0_isLessThan_b85 (N : Nat) (q : VX0) (w : VX0) (v10 : Bool) (s0 : Bool) : Option (Bool) :=
  if (bI s0) = (bI v10) then
    some false
  else
    some true
def fX0_isLessThan_b29 (N : Nat) (q : VX0) (w : VX0) (k29 : Int64 → Int64 → Int64 → Int64 → Bool → Int32 → Option (Bool)) (v2 : Int64) (v4 : Int64) (v6 : Int64) (v8 : Int64) (v10 : Bool) (v11 : Int32) : Option (Bool) :=
  if 200 ≤ v11 then
    fX0_isLessThan_b142 N q w v4 v8 v10
  else
    if v4 ≤ (0 : Int64) then
      fX0_isLessThan_b142 N q w v4 v8 v10
    else
      if v8 ≤ (0 : Int64) then
        fX0_isLessThan_b142 N q w v4 v8 v10
      else
        if v4 = 0 then none else
        if v8 = 0 then none else
        if (v2 / v4) = (v6 / v8) then
          if v4 = 0 then none else
          if v8 = 0 then none else
          if v10 = true then
            fX0_isLessThan_b134 N q w k29 v4 (v2 - v2 / v4 * v4) v8 (v6 - v6 / v8 * v8) v11 false
          else
            fX0_isLessThan_b134 N q w k29 v4 (v2 - v2 / v4 * v4) v8 (v6 - v6 / v8 * v8) v11 true
        else
          if (v6 / v8) ≤ (v2 / v4) then
            fX0_isLessThan_b85 N q w v10 false
          else
            fX0_isLessThan_b85 N q w v10 true
def fX0_isLessThan_l29 (N : Nat) (q : VX0) (w : VX0) : Nat → Int64 → Int64 → Int64 → Int64 → Bool → Int32 → Option (Bool)
  | 0, _, _, _, _, _, _ => none
  | n0 + 1, v2, v4, v6, v8, v10, v11 => fX0_isLessThan_b29 N q w (fX0_isLessThan_l29 N q w n0) v2 v4 v6 v8 v10 v11
def fX0_isLessThan (N : Nat) (q : VX0) (w : VX0) : Option (Bool) :=
  fX0_isLessThan_l29 N q w N q.1 q.2 w.1 w.2 false 0
def fX1_choose (z : VX1) (p1 : Int32) (p2 : Int32) : Option (Int64) :=
  if p1 < 0 then
    some (0 : Int64)
  else
    if 60 < p1 then
      some (0 : Int64)
    else
      if p2 < 0 then
        some (0 : Int64)
      else
        if p2 ≤ p1 then
          if 1891 ≤ (((p1 * (p1 + 1)) / 2) + p2) then
            some (0 : Int64)
          else
            if k_in (((p1 * (p1 + 1)) / 2) + p2) 1891 then
            some (z.1 (((p1 * (p1 + 1)) / 2) + p2).toNatClampNeg) else none
        else
          some (0 : Int64)
def fX1_write (p1 : Int32) (p2 : Int32) (p3 : Int64) (z : VX1) : Option (VX1) :=
  if ((p1 * 61) + p2) < 0 then
    some z
  else
    if 1891 ≤ ((p1 * 61) + p2) then
      some z
    else
      if k_in ((p1 * 61) + p2) 1891 then
      some (z.1, vp_updL z.2.1 (((p1 * 61) + p2)).toNatClampNeg p3, z.2.2.1, z.2.2.2.1, z.2.2.2.2) else none
def fX1_people (z : VX1) (p1 : Int32) : Option (Int32) :=
  some ((z.2.2.1 + z.2.2.2.2) - p1)
def fX1_read (z : VX1) (p1 : Int32) (p2 : Int32) : Option (Int64) :=
  if p2 < 0 then
    some (0 : Int64)
  else
    k_b1 (fX1_people z p1) fun x_2 =>
    if x_2 < p2 then
      some (0 : Int64)
    else
      if ((p1 * 61) + p2) < 0 then
        some (0 : Int64)
      else
        if 1891 ≤ ((p1 * 61) + p2) then
          some (0 : Int64)
        else
          if k_in ((p1 * 61) + p2) 1891 then
          some (z.2.1 ((p1 * 61) + p2).toNatClampNeg) else none
def fX1_lay_b74 (N : Nat) (k66 : Int32 → VX1 → Option (VX1)) (k74 : Int32 → Int32 → VX1 → Option (VX1)) (v4 : Int32) (v5 : Int32) (z : VX1) : Option (VX1) :=
  k_b1 (fX1_people z v4) fun x_1 =>
  if x_1 < v5 then
    k66 (v4 + (-1)) z
  else
    k_b1 (fX1_read z (v4 + 1) v5) fun x_4 =>
    k_b1 (fX1_read z (v4 + 1) (v5 - 1)) fun x_6 =>
    k_b1 (fX1_write v4 v5 (x_4 + ((2 : Int64) * x_6)) z) fun z_8 =>
    k74 v4 (v5 + 1) z_8
def fX1_lay_l74 (N : Nat) (k66 : Int32 → VX1 → Option (VX1)) : Nat → Int32 → Int32 → VX1 → Option (VX1)
  | 0, _, _, _ => none
  | n0 + 1, v4, v5, z => fX1_lay_b74 N k66 (fX1_lay_l74 N k66 n0) v4 v5 z
def fX1_lay_b66 (N : Nat) (k66 : Int32 → VX1 → Option (VX1)) (v4 : Int32) (z : VX1) : Option (VX1) :=
  if v4 < 0 then
    some z
  else
    fX1_lay_l74 N k66 N v4 0 z
def fX1_lay_l66 (N : Nat) : Nat → Int32 → VX1 → Option (VX1)
  | 0, _, _ => none
  | n0 + 1, v4, z => fX1_lay_b66 N (fX1_lay_l66 N n0) v4 z
def fX1_lay_b23 (N : Nat) (k23 : Int32 → VX1 → Option (VX1)) (v4 : Int32) (z : VX1) : Option (VX1) :=
  if z.2.2.1 < v4 then
    fX1_lay_l66 N N (z.2.2.2.2 - 1) z
  else
    k_b1 (fX1_choose z z.2.2.1 v4) fun x_2 =>
    k_b1 (fX1_write z.2.2.2.2 v4 x_2 z) fun z_4 =>
    k23 (v4 + 1) z_4
def fX1_lay_l23 (N : Nat) : Nat → Int32 → VX1 → Option (VX1)
  | 0, _, _ => none
  | n0 + 1, v4, z => fX1_lay_b23 N (fX1_lay_l23 N n0) v4 z
def fX1_lay (N : Nat) (p1 : Int32) (p2 : Int32) (p3 : Int32) (z : VX1) : Option (VX1) :=
  fX1_lay_l23 N N 0 (z.1, z.2.1, p1, p2, (if (30 : Int32) < p3 then (30 : Int32) else p3))
def fX1_valid (z : VX1) : Option (Int32) :=
  some (z.2.2.1 + ((2 : Int32) * z.2.2.2.2))
def fX1_all (z : VX1) : Option (Int32) :=
  k_b1 (fX1_valid z) fun x_1 =>
  some (x_1 + z.2.2.2.1)
def fX1_leastDoubles (z : VX1) (p1 : Int32) : Option (Int32) :=
  k_b1 (fX1_people z 0) fun x_1 =>
  some (if (0 : Int32) < (p1 - x_1) then (p1 - x_1) else (0 : Int32))
def fX1_ways (z : VX1) (p1 : Int32) (p2 : Int32) (p3 : Int32) : Option (Int64) :=
  k_b1 (fX1_choose z z.2.2.2.2 p3) fun x_1 =>
  k_b1 (fX1_read z p3 (p2 - ((2 : Int32) * p3))) fun x_3 =>
  k_b1 (fX1_choose z z.2.2.2.1 (p1 - p2)) fun x_5 =>
  some ((x_1 * x_3) * x_5)
def fX5_signAt (n : Nat) (t : VX5) (p1 : Int32) : Option (Int32) :=
  if p1 < 0 then
    some (-6)
  else
    if t.2 ≤ p1 then
      some (-6)
    else
      if (nI n) ≤ p1 then
        some (-6)
      else
        if k_in p1 n then
        some (t.1 p1.toNatClampNeg) else none
def fX6_isOperator (p0 : Int32) : Option (Bool) :=
  if p0 = 43 then
    some true
  else
    if p0 = 45 then
      some true
    else
      if p0 = 42 then
        some true
      else
        if p0 = 47 then
          some true
        else
          some false
def fX2_put (p1 : Int32) (p2 : Int64) (p4 : Int64) (k : VX2) : Option (Bool × VX2) :=
  if p1 < 0 then
    some (false, k)
  else
    if 11 ≤ p1 then
      some (false, k)
    else
      if p1 < 11 then
        if k_in p1 11 then
        if k_in p1 11 then
        some (true, (vp_updL k.1 (p1).toNatClampNeg p2, vp_updL k.2.1 (p1).toNatClampNeg p4, k.2.2)) else none else none
      else
        some (false, k)
def fX2_combine_b198 (v6 : Int64) (v8 : Int64) (s1 : Int32) (s2 : Int64) (k : VX2) : Option (Bool × VX2) :=
  k_b2 (fX2_put s1 s2 (v6 * (if 0 < v8 then v8 else -v8)) k) fun x_1 k_2 =>
  if x_1 = true then
    some (true, k_2)
  else
    some (false, k_2)
def fX2_combine_b168 (v3 : Int32) (v4 : Int64) (v6 : Int64) (v8 : Int64) (v10 : Int64) (k : VX2) : Option (Bool × VX2) :=
  if v8 = (0 : Int64) then
    some (false, k)
  else
    if (0 : Int64) ≤ v8 then
      fX2_combine_b198 v6 v8 v3 (v4 * v10) k
    else
      fX2_combine_b198 v6 v8 v3 ((-v4) * v10) k
def fX2_combine (p1 : Int32) (k : VX2) : Option (Bool × VX2) :=
  if (k.2.2 - 2) < 0 then
    some (false, k)
  else
    if 11 ≤ (k.2.2 - 1) then
      some (false, k)
    else
      if (k.2.2 - 1) < 11 then
        if k_in (k.2.2 - 1) 11 then
        if k_in (k.2.2 - 1) 11 then
        if k_in (k.2.2 - 2) 11 then
        if k_in (k.2.2 - 2) 11 then
        if p1 = 42 then
          k_b2 (fX2_put (k.2.2 - 2) ((k.1 (k.2.2 - 1).toNatClampNeg) * (k.1 (k.2.2 - 2).toNatClampNeg)) ((k.2.1 (k.2.2 - 1).toNatClampNeg) * (k.2.1 (k.2.2 - 2).toNatClampNeg)) (k.1, k.2.1, (k.2.2 - 1))) fun x_9 k_10 =>
          some (x_9, k_10)
        else
        if p1 = 43 then
          k_b2 (fX2_put (k.2.2 - 2) (((k.1 (k.2.2 - 1).toNatClampNeg) * (k.2.1 (k.2.2 - 2).toNatClampNeg)) + ((k.1 (k.2.2 - 2).toNatClampNeg) * (k.2.1 (k.2.2 - 1).toNatClampNeg))) ((k.2.1 (k.2.2 - 1).toNatClampNeg) * (k.2.1 (k.2.2 - 2).toNatClampNeg)) (k.1, k.2.1, (k.2.2 - 1))) fun x_13 k_14 =>
          some (x_13, k_14)
        else
        if p1 = 44 then
          fX2_combine_b168 (k.2.2 - 2) (k.1 (k.2.2 - 1).toNatClampNeg) (k.2.1 (k.2.2 - 1).toNatClampNeg) (k.1 (k.2.2 - 2).toNatClampNeg) (k.2.1 (k.2.2 - 2).toNatClampNeg) (k.1, k.2.1, (k.2.2 - 1))
        else
        if p1 = 45 then
          k_b2 (fX2_put (k.2.2 - 2) (((k.1 (k.2.2 - 1).toNatClampNeg) * (k.2.1 (k.2.2 - 2).toNatClampNeg)) - ((k.1 (k.2.2 - 2).toNatClampNeg) * (k.2.1 (k.2.2 - 1).toNatClampNeg))) ((k.2.1 (k.2.2 - 1).toNatClampNeg) * (k.2.1 (k.2.2 - 2).toNatClampNeg)) (k.1, k.2.1, (k.2.2 - 1))) fun x_18 k_19 =>
          some (x_18, k_19)
        else
          fX2_combine_b168 (k.2.2 - 2) (k.1 (k.2.2 - 1).toNatClampNeg) (k.2.1 (k.2.2 - 1).toNatClampNeg) (k.1 (k.2.2 - 2).toNatClampNeg) (k.2.1 (k.2.2 - 2).toNatClampNeg) (k.1, k.2.1, (k.2.2 - 1)) else none else none else none else none
      else
        some (false, k)
def fX2_valueOf (p0 : Int32) (p1 : Int32) (p2 : Int32) (p3 : Int32) (p4 : Int32) : Option (Int32) :=
  if p0 = 78 then
    some p1
  else
  if p0 = 100 then
    some p4
  else
  if p0 = 107 then
    some p2
  else
  if p0 = 118 then
    some p3
  else
    some (p0 - 48)
def fX2_push (p1 : Int32) (k : VX2) : Option (Bool × VX2) :=
  k_b2 (fX2_put ((k.2.2 + 1) - 1) (p1).toInt64 (1 : Int64) (k.1, k.2.1, (k.2.2 + 1))) fun x_1 k_2 =>
  some (x_1, k_2)
def fX2_reckon_b58 (N : Nat) (n : Nat) (u : VX5) (k13 : Int32 → Int32 → Int32 → Int32 → Int32 → VX2 → Option (Bool × VX2)) (v2 : Int32) (v3 : Int32) (v4 : Int32) (v5 : Int32) (v6 : Int32) (s0 : Bool) (k : VX2) : Option (Bool × VX2) :=
  if s0 = true then
    k13 v2 v3 v4 v5 (v6 + (-1)) k
  else
    some (false, k)
def fX2_reckon_b13 (N : Nat) (n : Nat) (u : VX5) (k13 : Int32 → Int32 → Int32 → Int32 → Int32 → VX2 → Option (Bool × VX2)) (v2 : Int32) (v3 : Int32) (v4 : Int32) (v5 : Int32) (v6 : Int32) (k : VX2) : Option (Bool × VX2) :=
  if v6 < 0 then
    if k.2.2 = 1 then
      some (true, k)
    else
      some (false, k)
  else
    k_b1 (fX5_signAt n u v6) fun x_3 =>
    k_b1 (fX6_isOperator x_3) fun x_5 =>
    if x_5 = true then
      k_b2 (fX2_combine x_3 k) fun x_13 k_14 =>
      fX2_reckon_b58 N n u k13 v2 v3 v4 v5 v6 x_13 k_14
    else
      k_b1 (fX2_valueOf x_3 v2 v3 v4 v5) fun x_8 =>
      k_b2 (fX2_push x_8 k) fun x_10 k_11 =>
      fX2_reckon_b58 N n u k13 v2 v3 v4 v5 v6 x_10 k_11
def fX2_reckon_l13 (N : Nat) (n : Nat) (u : VX5) : Nat → Int32 → Int32 → Int32 → Int32 → Int32 → VX2 → Option (Bool × VX2)
  | 0, _, _, _, _, _, _ => none
  | n0 + 1, v2, v3, v4, v5, v6, k => fX2_reckon_b13 N n u (fX2_reckon_l13 N n u n0) v2 v3 v4 v5 v6 k
def fX2_reckon (N : Nat) (n : Nat) (u : VX5) (p2 : Int32) (p3 : Int32) (p4 : Int32) (p5 : Int32) (k : VX2) : Option (Bool × VX2) :=
  fX2_reckon_l13 N n u N p2 p3 p4 p5 (u.2 - 1) (k.1, k.2.1, (0 : Int32))
def fX2_upper (k : VX2) : Option (Int64) :=
  if (11 : Int32) ≤ 0 then
    some (0 : Int64)
  else
    if k_in 0 11 then
    some (k.1 ((0 : Int32)).toNatClampNeg) else none
def fX2_lower (k : VX2) : Option (Int64) :=
  if (11 : Int32) ≤ 0 then
    some (1 : Int64)
  else
    if k_in 0 11 then
    some (k.2.1 ((0 : Int32)).toNatClampNeg) else none
def fX2_reachesNeed (N : Nat) (g : VX3) (p2 : Int32) (p3 : Int32) (p4 : Int32) (p5 : Int32) (k : VX2) : Option (Bool × VX2) :=
  k_b2 (fX2_reckon N 11 g.2.2.2.1 p2 p3 p4 p5 k) fun x_1 k_2 =>
  if x_1 = true then
    k_b1 (fX2_upper k_2) fun x_5 =>
    k_b1 (fX2_lower k_2) fun x_7 =>
    if x_5 < ((g.2.2.2.2.2.1).toInt64 * x_7) then
      some (false, k_2)
    else
      some (true, k_2)
  else
    some (false, k_2)
def fX3_copy_60 (fa : Nat → Int32) (fb : Nat → Int32) : Option ((Nat → Int32)) :=
  some (va_cpy fa fb 0 0 60)
def fX3_copy_6 (fa : Nat → Int32) (fb : Nat → Int32) : Option ((Nat → Int32)) :=
  some (va_cpy fa fb 0 0 6)
def fX5_clear (n : Nat) (t : VX5) : Option (VX5) :=
  some (t.1, (0 : Int32))
def fX5_append (n : Nat) (p1 : Int32) (t : VX5) : Option (Bool × VX5) :=
  if t.2 < 0 then
    some (false, t)
  else
    if t.2 < (nI n) then
      if k_in t.2 n then
      some (true, (upd t.1 (t.2).toNatClampNeg p1, (t.2 + 1))) else none
    else
      some (false, t)
def fX5_become_b6 (N : Nat) (n : Nat) (nb : Nat) (u : VX5) (k6 : Int32 → VX5 → Option (VX5)) (v2 : Int32) (t : VX5) : Option (VX5) :=
  if u.2 ≤ v2 then
    some t
  else
    k_b1 (fX5_signAt nb u v2) fun x_2 =>
    k_b2 (fX5_append n x_2 t) fun x_4 t_5 =>
    k6 (v2 + 1) t_5
def fX5_become_l6 (N : Nat) (n : Nat) (nb : Nat) (u : VX5) : Nat → Int32 → VX5 → Option (VX5)
  | 0, _, _ => none
  | n0 + 1, v2, t => fX5_become_b6 N n nb u (fX5_become_l6 N n nb u n0) v2 t
def fX5_become (N : Nat) (n : Nat) (nb : Nat) (u : VX5) (t : VX5) : Option (VX5) :=
  k_b1 (fX5_clear n t) fun t_1 =>
  fX5_become_l6 N n nb u N 0 t_1
def fX3_become (N : Nat) (g : VX3) (r : VX3) : Option (VX3) :=
  k_b1 (fX3_copy_60 g.1 r.1) fun r_1 =>
  k_b1 (fX3_copy_6 g.2.1 r.2.1) fun r_3 =>
  k_b1 (fX3_copy_6 g.2.2.1 r.2.2.1) fun r_5 =>
  k_b1 (fX5_become N 11 11 g.2.2.2.1 r.2.2.2.1) fun r_7 =>
  some (r_1, r_3, r_5, r_7, g.2.2.2.2.1, g.2.2.2.2.2.1, r.2.2.2.2.2.2)
def fX3_sizeOf (r : VX3) (p1 : Int32) : Option (Int32) :=
  if p1 < 0 then
    some 0
  else
    if 6 ≤ p1 then
      some 0
    else
      if k_in p1 6 then
      some (r.2.1 p1.toNatClampNeg) else none
def fX3_signOf (r : VX3) (p1 : Int32) (p2 : Int32) : Option (Int32) :=
  if p2 < 0 then
    some (-6)
  else
    k_b1 (fX3_sizeOf r p1) fun x_2 =>
    if p2 < x_2 then
      if ((p1 * 10) + p2) < 0 then
        some (-6)
      else
        if 60 ≤ ((p1 * 10) + p2) then
          some (-6)
        else
          if k_in ((p1 * 10) + p2) 60 then
          some (r.1 ((p1 * 10) + p2).toNatClampNeg) else none
    else
      some (-6)
def fX3_fillSheet_b63 (N : Nat) (n : Nat) (u : VX5) (k25 : Int32 → Int32 → VX3 → Option (VX3)) (v1 : Int32) (v3 : Int32) (r : VX3) : Option (VX3) :=
  k25 v1 (v3 + 1) r
def fX3_fillSheet_b25 (N : Nat) (n : Nat) (u : VX5) (k25 : Int32 → Int32 → VX3 → Option (VX3)) (v1 : Int32) (v3 : Int32) (r : VX3) : Option (VX3) :=
  if u.2 ≤ v3 then
    if k_in v1 6 then
    some (r.1, upd r.2.1 (v1).toNatClampNeg u.2, r.2.2.1, r.2.2.2.1, r.2.2.2.2.1, r.2.2.2.2.2.1, r.2.2.2.2.2.2) else none
  else
    if 60 ≤ ((v1 * 10) + v3) then
      fX3_fillSheet_b63 N n u k25 v1 v3 r
    else
      k_b1 (fX5_signAt n u v3) fun x_4 =>
      if k_in ((v1 * 10) + v3) 60 then
      fX3_fillSheet_b63 N n u k25 v1 v3 (upd r.1 (((v1 * 10) + v3)).toNatClampNeg x_4, r.2.1, r.2.2.1, r.2.2.2.1, r.2.2.2.2.1, r.2.2.2.2.2.1, r.2.2.2.2.2.2) else none
def fX3_fillSheet_l25 (N : Nat) (n : Nat) (u : VX5) : Nat → Int32 → Int32 → VX3 → Option (VX3)
  | 0, _, _, _ => none
  | n0 + 1, v1, v3, r => fX3_fillSheet_b25 N n u (fX3_fillSheet_l25 N n u n0) v1 v3 r
def fX3_fillSheet (N : Nat) (n : Nat) (u : VX5) (p1 : Int32) (r : VX3) : Option (VX3) :=
  if p1 < 0 then
    some r
  else
    if 6 ≤ p1 then
      some r
    else
      if u.2 ≤ 10 then
        fX3_fillSheet_l25 N n u N p1 0 r
      else
        some r
def fX3_gathererOf (r : VX3) (p1 : Int32) : Option (Int32) :=
  if p1 < 0 then
    some (-6)
  else
    if 6 ≤ p1 then
      some (-6)
    else
      if k_in p1 6 then
      some (r.2.2.1 p1.toNatClampNeg) else none
def fX3_giveTo (p1 : Int32) (p2 : Int32) (r : VX3) : Option (Int32 × VX3) :=
  k_b1 (fX3_gathererOf r p1) fun x_1 =>
  if p1 < 0 then
    some (x_1, r)
  else
    if 6 ≤ p1 then
      some (x_1, r)
    else
      if k_in p1 6 then
      some (x_1, (r.1, r.2.1, upd r.2.2.1 (p1).toNatClampNeg p2, r.2.2.2.1, r.2.2.2.2.1, r.2.2.2.2.2.1, r.2.2.2.2.2.2)) else none
def fX3_isStruck (r : VX3) (p1 : Int32) : Option (Bool) :=
  if ((r.2.2.2.2.1 >>> (p1 &&& 31)) &&& 1) = 0 then
    some false
  else
    some true
def fX3_strikeOut (p1 : Int32) (p2 : Int32) (r : VX3) : Option (Int32 × VX3) :=
  some (((r.2.2.2.2.1 >>> (p1 &&& 31)) &&& 1), (r.1, r.2.1, r.2.2.1, r.2.2.2.1, ((r.2.2.2.2.1 &&& (((1 : Int32) <<< (p1 &&& 31)) ^^^ (-1))) ||| (p2 <<< (p1 &&& 31))), r.2.2.2.2.2.1, r.2.2.2.2.2.2))
def fX4_clear_b2 (N : Nat) (k2 : Int32 → VX4 → Option (VX4)) (v1 : Int32) (y : VX4) : Option (VX4) :=
  if 26 ≤ v1 then
    some (y.1, (0 : Int32), (0 : Int32), (0 : Int32), (0 : Int32), (0 : Int32), false)
  else
    if k_in v1 26 then
    k2 (v1 + 1) (upd y.1 (v1).toNatClampNeg 0, y.2.1, y.2.2.1, y.2.2.2.1, y.2.2.2.2.1, y.2.2.2.2.2.1, y.2.2.2.2.2.2) else none
def fX4_clear_l2 (N : Nat) : Nat → Int32 → VX4 → Option (VX4)
  | 0, _, _ => none
  | n0 + 1, v1, y => fX4_clear_b2 N (fX4_clear_l2 N n0) v1 y
def fX4_clear (N : Nat) (y : VX4) : Option (VX4) :=
  fX4_clear_l2 N N 0 y
def fX6_isBad (p0 : Int32) : Option (Bool) :=
  if p0 = 115 then
    some true
  else
    if p0 = 109 then
      some true
    else
      if p0 = 117 then
        some true
      else
        some false
def fX4_addPerson (p1 : Int32) (y : VX4) : Option (VX4) :=
  if p1 < 0 then
    some y
  else
    if p1 < 26 then
      if k_in p1 26 then
      if k_in p1 26 then
      if k_in p1 26 then
      if ((upd y.1 (p1).toNatClampNeg ((y.1 p1.toNatClampNeg) + 1)) p1.toNatClampNeg) = 1 then
        some (upd y.1 (p1).toNatClampNeg ((y.1 p1.toNatClampNeg) + 1), y.2.1, y.2.2.1, y.2.2.2.1, (y.2.2.2.2.1 + 1), y.2.2.2.2.2.1, y.2.2.2.2.2.2)
      else
        if k_in p1 26 then
        if ((upd y.1 (p1).toNatClampNeg ((y.1 p1.toNatClampNeg) + 1)) p1.toNatClampNeg) = 2 then
          some (upd y.1 (p1).toNatClampNeg ((y.1 p1.toNatClampNeg) + 1), y.2.1, y.2.2.1, y.2.2.2.1, (y.2.2.2.2.1 - 1), (y.2.2.2.2.2.1 + 1), y.2.2.2.2.2.2)
        else
          some (upd y.1 (p1).toNatClampNeg ((y.1 p1.toNatClampNeg) + 1), y.2.1, y.2.2.1, y.2.2.2.1, y.2.2.2.2.1, y.2.2.2.2.2.1, true) else none else none else none else none
    else
      some y
def fX4_add (p1 : Int32) (y : VX4) : Option (VX4) :=
  if p1 = 46 then
    some (y.1, (y.2.1 + 1), y.2.2.1, (y.2.2.2.1 + 1), y.2.2.2.2.1, y.2.2.2.2.2.1, y.2.2.2.2.2.2)
  else
    k_b1 (fX6_isBad p1) fun x_2 =>
    if x_2 = true then
      some (y.1, (y.2.1 + 1), (y.2.2.1 + 1), y.2.2.2.1, y.2.2.2.2.1, y.2.2.2.2.2.1, y.2.2.2.2.2.2)
    else
      k_b1 (fX4_addPerson (p1 - 65) (y.1, (y.2.1 + 1), y.2.2.1, y.2.2.2.1, y.2.2.2.2.1, y.2.2.2.2.2.1, y.2.2.2.2.2.2)) fun y_5 =>
      some y_5
def fX4_readSheets_b34 (N : Nat) (g : VX3) (k6 : Int32 → Int32 → VX4 → Option (VX4)) (k34 : Int32 → Int32 → Int32 → Int32 → VX4 → Option (VX4)) (v2 : Int32) (v3 : Int32) (v4 : Int32) (v5 : Int32) (y : VX4) : Option (VX4) :=
  if v4 ≤ v5 then
    k6 v2 (v3 + 1) y
  else
    k_b1 (fX3_signOf g v3 v5) fun x_2 =>
    k_b1 (fX4_add x_2 y) fun y_4 =>
    k34 v2 v3 v4 (v5 + 1) y_4
def fX4_readSheets_l34 (N : Nat) (g : VX3) (k6 : Int32 → Int32 → VX4 → Option (VX4)) : Nat → Int32 → Int32 → Int32 → Int32 → VX4 → Option (VX4)
  | 0, _, _, _, _, _ => none
  | n0 + 1, v2, v3, v4, v5, y => fX4_readSheets_b34 N g k6 (fX4_readSheets_l34 N g k6 n0) v2 v3 v4 v5 y
def fX4_readSheets_b29 (N : Nat) (g : VX3) (k6 : Int32 → Int32 → VX4 → Option (VX4)) (v2 : Int32) (v3 : Int32) (s0 : Int32) (y : VX4) : Option (VX4) :=
  fX4_readSheets_l34 N g k6 N v2 v3 s0 0 y
def fX4_readSheets_b6 (N : Nat) (g : VX3) (k6 : Int32 → Int32 → VX4 → Option (VX4)) (v2 : Int32) (v3 : Int32) (y : VX4) : Option (VX4) :=
  if 6 ≤ v3 then
    some y
  else
    if ((v2 >>> (v3 &&& 31)) &&& 1) = 0 then
      fX4_readSheets_b29 N g k6 v2 v3 0 y
    else
      k_b1 (fX3_sizeOf g v3) fun x_3 =>
      fX4_readSheets_b29 N g k6 v2 v3 x_3 y
def fX4_readSheets_l6 (N : Nat) (g : VX3) : Nat → Int32 → Int32 → VX4 → Option (VX4)
  | 0, _, _, _ => none
  | n0 + 1, v2, v3, y => fX4_readSheets_b6 N g (fX4_readSheets_l6 N g n0) v2 v3 y
def fX4_readSheets (N : Nat) (g : VX3) (p2 : Int32) (y : VX4) : Option (VX4) :=
  k_b1 (fX4_clear N y) fun y_1 =>
  fX4_readSheets_l6 N g N p2 0 y_1
def fX4_valid (y : VX4) : Option (Int32) :=
  some (y.2.1 - y.2.2.1)
def fX4_singles (y : VX4) : Option (Int32) :=
  some (y.2.2.2.1 + y.2.2.2.2.1)
def fX4_good (y : VX4) : Option (Int32) :=
  some ((y.2.2.2.1 + y.2.2.2.2.1) + y.2.2.2.2.2.1)
def fX6_isWithin (p0 : Int32) (p1 : Int32) (p2 : Int32) : Option (Bool) :=
  if p0 < p1 then
    some false
  else
    if p2 < p0 then
      some false
    else
      some true
def fX6_say (p1 : Int32) (pad : VX5) : Option (Int32 × VX5) :=
  k_b1 (fX6_isWithin p1 33 126) fun x_1 =>
  if x_1 = true then
    k_b2 (fX5_append 16 p1 pad) fun x_4 pad_5 =>
    if x_4 = true then
      some (pad_5.2, pad_5)
    else
      some ((-4), pad_5)
  else
    some ((-2), pad)
def fX6_wipe (pad : VX5) : Option (Int32 × VX5) :=
  k_b1 (fX5_clear 16 pad) fun pad_1 =>
  some (pad.2, pad_1)
def fX6_isLetter (p0 : Int32) : Option (Bool) :=
  k_b1 (fX6_isWithin p0 65 90) fun x_1 =>
  some x_1
def fX6_namesFault_b47 (N : Nat) (pad : VX5) (k2 : Int32 → Option (Int32)) (v1 : Int32) (s0 : Bool) : Option (Int32) :=
  if 10 ≤ v1 then
    some v1
  else
    if s0 = true then
      k2 (v1 + 1)
    else
      some v1
def fX6_namesFault_b42 (N : Nat) (pad : VX5) (k2 : Int32 → Option (Int32)) (v1 : Int32) : Option (Int32) :=
  fX6_namesFault_b47 N pad k2 v1 true
def fX6_namesFault_b2 (N : Nat) (pad : VX5) (k2 : Int32 → Option (Int32)) (v1 : Int32) : Option (Int32) :=
  if pad.2 ≤ v1 then
    some (-6)
  else
    k_b1 (fX5_signAt 16 pad v1) fun x_2 =>
    if x_2 = 46 then
      fX6_namesFault_b42 N pad k2 v1
    else
      k_b1 (fX6_isBad x_2) fun x_5 =>
      if x_5 = true then
        fX6_namesFault_b42 N pad k2 v1
      else
        k_b1 (fX6_isLetter x_2) fun x_8 =>
        if x_8 = true then
          fX6_namesFault_b42 N pad k2 v1
        else
          fX6_namesFault_b47 N pad k2 v1 false
def fX6_namesFault_l2 (N : Nat) (pad : VX5) : Nat → Int32 → Option (Int32)
  | 0, _ => none
  | n0 + 1, v1 => fX6_namesFault_b2 N pad (fX6_namesFault_l2 N pad n0) v1
def fX6_namesFault (N : Nat) (pad : VX5) : Option (Int32) :=
  fX6_namesFault_l2 N pad N 0
def fX6_isOperand (p0 : Int32) : Option (Bool) :=
  if p0 = 78 then
    some true
  else
    if p0 = 107 then
      some true
    else
      if p0 = 118 then
        some true
      else
        if p0 = 100 then
          some true
        else
          k_b1 (fX6_isWithin p0 48 57) fun x_5 =>
          if x_5 = true then
            some true
          else
            some false
def fX6_ruleFault_b64 (N : Nat) (pad : VX5) (k4 : Int32 → Int32 → Option (Int32)) (v1 : Int32) (v2 : Int32) : Option (Int32) :=
  k4 v1 (v2 + 1)
def fX6_ruleFault_b4 (N : Nat) (pad : VX5) (k4 : Int32 → Int32 → Option (Int32)) (v1 : Int32) (v2 : Int32) : Option (Int32) :=
  if pad.2 ≤ v2 then
    if v1 = 0 then
      some (-6)
    else
      some pad.2
  else
    k_b1 (fX5_signAt 16 pad v2) fun x_3 =>
    if 11 ≤ v2 then
      some v2
    else
      if v1 = 0 then
        some v2
      else
        k_b1 (fX6_isOperator x_3) fun x_7 =>
        if x_7 = true then
          fX6_ruleFault_b64 N pad k4 (v1 + 1) v2
        else
          k_b1 (fX6_isOperand x_3) fun x_10 =>
          if x_10 = true then
            fX6_ruleFault_b64 N pad k4 (v1 + (-1)) v2
          else
            some v2
def fX6_ruleFault_l4 (N : Nat) (pad : VX5) : Nat → Int32 → Int32 → Option (Int32)
  | 0, _, _ => none
  | n0 + 1, v1, v2 => fX6_ruleFault_b4 N pad (fX6_ruleFault_l4 N pad n0) v1 v2
def fX6_ruleFault (N : Nat) (pad : VX5) : Option (Int32) :=
  fX6_ruleFault_l4 N pad N 1 0
def fX6_fault (N : Nat) (pad : VX5) (p1 : Int32) : Option (Int32) :=
  k_b1 (fX6_isWithin p1 0 1) fun x_1 =>
  if x_1 = true then
    if p1 = 0 then
      k_b1 (fX6_namesFault N pad) fun x_7 =>
      some x_7
    else
      k_b1 (fX6_ruleFault N pad) fun x_5 =>
      some x_5
  else
    some (-2)
def fX6_isSheet (p0 : Int32) : Option (Bool) :=
  k_b1 (fX6_isWithin p0 0 5) fun x_1 =>
  some x_1
def fX6_names (N : Nat) (p1 : Int32) (pad : VX5) (now : VX3) : Option (Int32 × VX5 × VX3) :=
  k_b1 (fX6_isSheet p1) fun x_1 =>
  if x_1 = true then
    k_b1 (fX6_namesFault N pad) fun x_4 =>
    if x_4 = (-6) then
      k_b1 (fX3_fillSheet N 16 pad p1 now) fun now_7 =>
      k_b2 (fX6_wipe pad) fun x_9 pad_10 =>
      some (x_9, pad_10, now_7)
    else
      some ((-5), pad, now)
  else
    some ((-1), pad, now)
def fX6_set_b29 (v1 : Int32) (v2 : Int32) (v3 : Int32) (s0 : Int32) (s2 : Int32) (now : VX3) : Option (Int32 × VX3) :=
  k_b1 (fX6_isWithin s0 0 s2) fun x_1 =>
  if x_1 = true then
    if v2 = 0 then
      k_b2 (fX3_giveTo v1 v3 now) fun x_8 now_9 =>
      some (x_8, now_9)
    else
      k_b2 (fX3_strikeOut v1 v3 now) fun x_5 now_6 =>
      some (x_5, now_6)
  else
    some ((-2), now)
def fX6_set (p1 : Int32) (p2 : Int32) (p3 : Int32) (now : VX3) : Option (Int32 × VX3) :=
  k_b1 (fX6_isSheet p1) fun x_1 =>
  if x_1 = true then
    k_b1 (fX6_isWithin p2 0 1) fun x_4 =>
    if x_4 = true then
      if p2 = 0 then
        fX6_set_b29 p1 p2 p3 p3 4 now
      else
        fX6_set_b29 p1 p2 p3 p3 1 now
    else
      some ((-2), now)
  else
    some ((-1), now)
def fX6_sheet (now : VX3) (p1 : Int32) (p2 : Int32) : Option (Int32) :=
  k_b1 (fX6_isSheet p1) fun x_1 =>
  if x_1 = true then
    if p2 = (-1) then
      k_b1 (fX3_sizeOf now p1) fun x_7 =>
      some x_7
    else
      k_b1 (fX3_signOf now p1 p2) fun x_5 =>
      some x_5
  else
    some (-1)
def fX6_readList (N : Nat) (now : VX3) (li : VX4) : Option (VX4) :=
  k_b1 (fX4_readSheets N now ((63 : Int32) &&& (now.2.2.2.2.1 ^^^ (-1))) li) fun li_1 =>
  some li_1
def fX6_count (N : Nat) (now : VX3) (p1 : Int32) (li : VX4) : Option (Int32 × VX4) :=
  k_b1 (fX6_isWithin p1 0 3) fun x_1 =>
  if x_1 = true then
    k_b1 (fX6_readList N now li) fun li_4 =>
    if p1 = 0 then
      some (li_4.2.1, li_4)
    else
      if p1 = 1 then
        some (li_4.2.2.1, li_4)
      else
        if li_4.2.2.2.2.2.2 = true then
          some ((-3), li_4)
        else
          if p1 = 2 then
            some (li_4.2.2.2.2.2.1, li_4)
          else
            k_b1 (fX4_good li_4) fun x_10 =>
            some (x_10, li_4)
  else
    some ((-2), li)
def fX6_need (p1 : Int32) (now : VX3) : Option (Int32 × VX3) :=
  k_b1 (fX6_isWithin p1 0 60) fun x_1 =>
  if x_1 = true then
    some (now.2.2.2.2.2.1, (now.1, now.2.1, now.2.2.1, now.2.2.2.1, now.2.2.2.2.1, p1, now.2.2.2.2.2.2))
  else
    some ((-2), now)
def fX6_rule (N : Nat) (pad : VX5) (now : VX3) : Option (Int32 × VX5 × VX3) :=
  k_b1 (fX6_ruleFault N pad) fun x_1 =>
  if x_1 = (-6) then
    k_b1 (fX5_become N 11 16 pad now.2.2.2.1) fun now_4 =>
    k_b2 (fX6_wipe pad) fun x_6 pad_7 =>
    some (x_6, pad_7, (now.1, now.2.1, now.2.2.1, now_4, now.2.2.2.2.1, now.2.2.2.2.2.1, now.2.2.2.2.2.2))
  else
    some ((-5), pad, now)
def fX6_isNumber (p0 : Int32) : Option (Bool) :=
  k_b1 (fX6_isWithin p0 0 60) fun x_1 =>
  some x_1
def fX6_isPart (p0 : Int32) : Option (Bool) :=
  k_b1 (fX6_isWithin p0 0 1) fun x_1 =>
  some x_1
def fX6_comes (N : Nat) (now : VX3) (p1 : Int32) (p2 : Int32) (p3 : Int32) (p4 : Int32) (p5 : Int32) (re : VX2) (ru : VX0) : Option (Int64 × VX2 × VX0) :=
  k_b1 (fX6_isNumber p1) fun x_1 =>
  if x_1 = true then
    k_b1 (fX6_isNumber p2) fun x_4 =>
    if x_4 = true then
      k_b1 (fX6_isNumber p3) fun x_7 =>
      if x_7 = true then
        k_b1 (fX6_isNumber p4) fun x_10 =>
        if x_10 = true then
          k_b1 (fX6_isPart p5) fun x_13 =>
          if x_13 = true then
            k_b2 (fX2_reckon N 11 now.2.2.2.1 p1 p2 p3 p4 re) fun x_16 re_17 =>
            if x_16 = true then
              k_b1 (fX2_upper re_17) fun x_20 =>
              k_b1 (fX2_lower re_17) fun x_22 =>
              k_b1 (fX0_become N x_20 x_22 ru) fun ru_24 =>
              k_b1 (fX0_half ru_24 p5) fun x_26 =>
              some (x_26, re_17, ru_24)
            else
              some ((-1000000000000000005 : Int64), re_17, ru)
          else
            some ((-1000000000000000002 : Int64), re, ru)
        else
          some ((-1000000000000000002 : Int64), re, ru)
      else
        some ((-1000000000000000002 : Int64), re, ru)
    else
      some ((-1000000000000000002 : Int64), re, ru)
  else
    some ((-1000000000000000002 : Int64), re, ru)
def fX6_lotRefusal (N : Nat) (now : VX3) (p1 : Int32) (p2 : Int32) (li : VX4) : Option (Int32 × VX4) :=
  k_b1 (fX6_readList N now li) fun li_1 =>
  k_b1 (fX6_isWithin p1 1 li_1.2.1) fun x_3 =>
  if x_3 = true then
    k_b1 (fX6_isPart p2) fun x_6 =>
    if x_6 = true then
      if li_1.2.2.2.2.2.2 = true then
        some ((-3), li_1)
      else
        some (0, li_1)
    else
      some ((-2), li_1)
  else
    some ((-2), li_1)
def fX6_layList (N : Nat) (li : VX4) (lo : VX1) : Option (VX1) :=
  k_b1 (fX4_singles li) fun x_1 =>
  k_b1 (fX1_lay N x_1 li.2.2.1 li.2.2.2.2.2.1 lo) fun lo_3 =>
  some lo_3
def fX6_waysToYes_b112 (N : Nat) (now : VX3) (lo : VX1) (k17 : Int32 → Int64 → Int32 → VX2 → Option (Int64 × VX2)) (v1 : Int32) (v2 : Int64) (v4 : Int32) (re : VX2) : Option (Int64 × VX2) :=
  k17 v1 v2 (v4 + 1) re
def fX6_waysToYes_b106 (N : Nat) (now : VX3) (lo : VX1) (k17 : Int32 → Int64 → Int32 → VX2 → Option (Int64 × VX2)) (k44 : Int32 → Int64 → Int32 → Int32 → VX2 → Option (Int64 × VX2)) (v1 : Int32) (v2 : Int64) (v4 : Int32) (v5 : Int32) (re : VX2) : Option (Int64 × VX2) :=
  k44 v1 v2 v4 (v5 + 1) re
def fX6_waysToYes_b44 (N : Nat) (now : VX3) (lo : VX1) (k17 : Int32 → Int64 → Int32 → VX2 → Option (Int64 × VX2)) (k44 : Int32 → Int64 → Int32 → Int32 → VX2 → Option (Int64 × VX2)) (v1 : Int32) (v2 : Int64) (v4 : Int32) (v5 : Int32) (re : VX2) : Option (Int64 × VX2) :=
  if lo.2.2.2.2 < v5 then
    fX6_waysToYes_b112 N now lo k17 v1 v2 v4 re
  else
    if v4 < ((2 : Int32) * v5) then
      fX6_waysToYes_b112 N now lo k17 v1 v2 v4 re
    else
      k_b1 (fX1_all lo) fun x_3 =>
      k_b2 (fX2_reachesNeed N now x_3 v1 v4 v5 re) fun x_5 re_6 =>
      if x_5 = true then
        k_b1 (fX1_ways lo v1 v4 v5) fun x_9 =>
        fX6_waysToYes_b106 N now lo k17 k44 v1 (v2 + x_9) v4 v5 re_6
      else
        fX6_waysToYes_b106 N now lo k17 k44 v1 v2 v4 v5 re_6
def fX6_waysToYes_l44 (N : Nat) (now : VX3) (lo : VX1) (k17 : Int32 → Int64 → Int32 → VX2 → Option (Int64 × VX2)) : Nat → Int32 → Int64 → Int32 → Int32 → VX2 → Option (Int64 × VX2)
  | 0, _, _, _, _, _ => none
  | n0 + 1, v1, v2, v4, v5, re => fX6_waysToYes_b44 N now lo k17 (fX6_waysToYes_l44 N now lo k17 n0) v1 v2 v4 v5 re
def fX6_waysToYes_b17 (N : Nat) (now : VX3) (lo : VX1) (k17 : Int32 → Int64 → Int32 → VX2 → Option (Int64 × VX2)) (v1 : Int32) (v2 : Int64) (v4 : Int32) (re : VX2) : Option (Int64 × VX2) :=
  k_b1 (fX1_valid lo) fun x_1 =>
  if (if x_1 < v1 then x_1 else v1) < v4 then
    some (v2, re)
  else
    k_b1 (fX1_leastDoubles lo v4) fun x_4 =>
    fX6_waysToYes_l44 N now lo k17 N v1 v2 v4 x_4 re
def fX6_waysToYes_l17 (N : Nat) (now : VX3) (lo : VX1) : Nat → Int32 → Int64 → Int32 → VX2 → Option (Int64 × VX2)
  | 0, _, _, _, _ => none
  | n0 + 1, v1, v2, v4, re => fX6_waysToYes_b17 N now lo (fX6_waysToYes_l17 N now lo n0) v1 v2 v4 re
def fX6_waysToYes (N : Nat) (now : VX3) (lo : VX1) (p1 : Int32) (re : VX2) : Option (Int64 × VX2) :=
  k_b1 (some ((if (0 : Int32) < (p1 - lo.2.2.2.1) then (p1 - lo.2.2.2.1) else (0 : Int32)))) fun x_1 =>
  fX6_waysToYes_l17 N now lo N p1 (0 : Int64) x_1 re
def fX6_yes (N : Nat) (now : VX3) (p1 : Int32) (p2 : Int32) (li : VX4) (lo : VX1) (re : VX2) (ru : VX0) : Option (Int64 × VX4 × VX1 × VX2 × VX0) :=
  k_b2 (fX6_lotRefusal N now p1 p2 li) fun x_1 li_2 =>
  if x_1 = 0 then
    k_b1 (fX6_layList N li_2 lo) fun lo_5 =>
    k_b2 (fX6_waysToYes N now lo_5 p1 re) fun x_7 re_8 =>
    k_b1 (fX1_choose lo_5 li_2.2.1 p1) fun x_10 =>
    k_b1 (fX0_become N x_7 x_10 ru) fun ru_12 =>
    k_b1 (fX0_half ru_12 p2) fun x_14 =>
    some (x_14, li_2, lo_5, re_8, ru_12)
  else
    some (((-1000000000000000000 : Int64) + (x_1).toInt64), li_2, lo, re, ru)
def fX6_filledSheets_b38 (N : Nat) (now : VX3) (k4 : Int32 → Int32 → Option (Int32)) (v1 : Int32) (v2 : Int32) : Option (Int32) :=
  k4 v1 (v2 + 1)
def fX6_filledSheets_b4 (N : Nat) (now : VX3) (k4 : Int32 → Int32 → Option (Int32)) (v1 : Int32) (v2 : Int32) : Option (Int32) :=
  if 6 ≤ v2 then
    some v1
  else
    k_b1 (fX3_isStruck now v2) fun x_2 =>
    if x_2 = true then
      fX6_filledSheets_b38 N now k4 v1 v2
    else
      k_b1 (fX3_sizeOf now v2) fun x_5 =>
      if x_5 ≤ 0 then
        fX6_filledSheets_b38 N now k4 v1 v2
      else
        fX6_filledSheets_b38 N now k4 (v1 ||| ((1 : Int32) <<< (v2 &&& 31))) v2
def fX6_filledSheets_l4 (N : Nat) (now : VX3) : Nat → Int32 → Int32 → Option (Int32)
  | 0, _, _ => none
  | n0 + 1, v1, v2 => fX6_filledSheets_b4 N now (fX6_filledSheets_l4 N now n0) v1 v2
def fX6_filledSheets (N : Nat) (now : VX3) : Option (Int32) :=
  fX6_filledSheets_l4 N now N 0 0
def fJ6_bitCount_0f7a4 (p0 : Int32) : Option (Int32) :=
  k_b1 (some (p0 - ((((p0).toUInt32 >>> (((1 : Int32)).toUInt32 &&& Int32.toUInt32 31)).toInt32) &&& (1431655765 : Int32)))) fun x_1 =>
  k_b1 (some ((x_1 &&& (858993459 : Int32)) + ((((x_1).toUInt32 >>> (((2 : Int32)).toUInt32 &&& Int32.toUInt32 31)).toInt32) &&& (858993459 : Int32)))) fun x_3 =>
  k_b1 (some ((x_3 + (((x_3).toUInt32 >>> (((4 : Int32)).toUInt32 &&& Int32.toUInt32 31)).toInt32)) &&& (252645135 : Int32))) fun x_5 =>
  k_b1 (some (x_5 + (((x_5).toUInt32 >>> (((8 : Int32)).toUInt32 &&& Int32.toUInt32 31)).toInt32))) fun x_7 =>
  k_b1 (some (x_7 + (((x_7).toUInt32 >>> (((16 : Int32)).toUInt32 &&& Int32.toUInt32 31)).toInt32))) fun x_9 =>
  some (x_9 &&& 63)
def fX6_someSaysYes (N : Nat) (now : VX3) (li : VX4) (so : VX4) (re : VX2) : Option (Bool × VX2) :=
  k_b1 (fX4_valid so) fun x_1 =>
  k_b2 (fX2_reachesNeed N now li.2.1 so.2.1 x_1 so.2.2.2.2.2.1 re) fun x_3 re_4 =>
  some (x_3, re_4)
def fX6_sheetWaysToYes_b58 (N : Nat) (now : VX3) (li : VX4) (k5 : Int32 → Int32 → Int32 → Int32 → VX4 → VX2 → Option (Int32 × VX4 × VX2)) (v1 : Int32) (v2 : Int32) (v3 : Int32) (v4 : Int32) (so : VX4) (re : VX2) : Option (Int32 × VX4 × VX2) :=
  k5 v1 v2 v3 (v4 + 1) so re
def fX6_sheetWaysToYes_b56 (N : Nat) (now : VX3) (li : VX4) (k5 : Int32 → Int32 → Int32 → Int32 → VX4 → VX2 → Option (Int32 × VX4 × VX2)) (v1 : Int32) (v2 : Int32) (v4 : Int32) (s0 : Int32) (s1 : Bool) (so : VX4) (re : VX2) : Option (Int32 × VX4 × VX2) :=
  fX6_sheetWaysToYes_b58 N now li k5 v1 v2 (s0 + (bI s1)) v4 so re
def fX6_sheetWaysToYes_b5 (N : Nat) (now : VX3) (li : VX4) (k5 : Int32 → Int32 → Int32 → Int32 → VX4 → VX2 → Option (Int32 × VX4 × VX2)) (v1 : Int32) (v2 : Int32) (v3 : Int32) (v4 : Int32) (so : VX4) (re : VX2) : Option (Int32 × VX4 × VX2) :=
  if 63 < v4 then
    some (v3, so, re)
  else
    if (v4 &&& (v1 ^^^ (-1))) = 0 then
      k_b1 (fJ6_bitCount_0f7a4 v4) fun x_3 =>
      if x_3 = v2 then
        k_b1 (fX4_readSheets N now v4 so) fun so_6 =>
        k_b2 (fX6_someSaysYes N now li so_6 re) fun x_8 re_9 =>
        if x_8 = true then
          fX6_sheetWaysToYes_b56 N now li k5 v1 v2 v4 v3 true so_6 re_9
        else
          fX6_sheetWaysToYes_b56 N now li k5 v1 v2 v4 v3 false so_6 re_9
      else
        fX6_sheetWaysToYes_b58 N now li k5 v1 v2 v3 v4 so re
    else
      fX6_sheetWaysToYes_b58 N now li k5 v1 v2 v3 v4 so re
def fX6_sheetWaysToYes_l5 (N : Nat) (now : VX3) (li : VX4) : Nat → Int32 → Int32 → Int32 → Int32 → VX4 → VX2 → Option (Int32 × VX4 × VX2)
  | 0, _, _, _, _, _, _ => none
  | n0 + 1, v1, v2, v3, v4, so, re => fX6_sheetWaysToYes_b5 N now li (fX6_sheetWaysToYes_l5 N now li n0) v1 v2 v3 v4 so re
def fX6_sheetWaysToYes (N : Nat) (now : VX3) (li : VX4) (p1 : Int32) (p2 : Int32) (so : VX4) (re : VX2) : Option (Int32 × VX4 × VX2) :=
  fX6_sheetWaysToYes_l5 N now li N p1 p2 0 1 so re
def fX6_bySheets (N : Nat) (now : VX3) (lo : VX1) (p1 : Int32) (p2 : Int32) (li : VX4) (so : VX4) (re : VX2) (ru : VX0) : Option (Int64 × VX4 × VX4 × VX2 × VX0) :=
  k_b1 (fX6_readList N now li) fun li_1 =>
  k_b1 (fX6_filledSheets N now) fun x_3 =>
  k_b1 (fJ6_bitCount_0f7a4 x_3) fun x_5 =>
  k_b1 (fX6_isWithin p1 1 x_5) fun x_7 =>
  if x_7 = true then
    k_b1 (fX6_isPart p2) fun x_10 =>
    if x_10 = true then
      if li_1.2.2.2.2.2.2 = true then
        some ((-1000000000000000003 : Int64), li_1, so, re, ru)
      else
        k_b3 (fX6_sheetWaysToYes N now li_1 x_3 p1 so re) fun x_14 so_15 re_16 =>
        k_b1 (fX1_choose lo x_5 p1) fun x_18 =>
        k_b1 (fX0_become N (x_14).toInt64 x_18 ru) fun ru_20 =>
        k_b1 (fX0_half ru_20 p2) fun x_22 =>
        some (x_22, li_1, so_15, re_16, ru_20)
    else
      some ((-1000000000000000002 : Int64), li_1, so, re, ru)
  else
    some ((-1000000000000000002 : Int64), li_1, so, re, ru)
def fX6_waysToBeWrong (N : Nat) (now : VX3) (li : VX4) (lo : VX1) (p1 : Int32) (re : VX2) : Option (Int64 × VX2) :=
  k_b2 (fX6_waysToYes N now lo p1 re) fun x_1 re_2 =>
  k_b1 (fX4_good li) fun x_4 =>
  if x_4 < now.2.2.2.2.2.1 then
    some (x_1, re_2)
  else
    k_b1 (fX1_choose lo li.2.1 p1) fun x_7 =>
    some ((x_7 - x_1), re_2)
def fX6_wrong (N : Nat) (now : VX3) (p1 : Int32) (p2 : Int32) (li : VX4) (lo : VX1) (re : VX2) (ru : VX0) : Option (Int64 × VX4 × VX1 × VX2 × VX0) :=
  k_b2 (fX6_lotRefusal N now p1 p2 li) fun x_1 li_2 =>
  if x_1 = 0 then
    k_b1 (fX6_layList N li_2 lo) fun lo_5 =>
    k_b2 (fX6_waysToBeWrong N now li_2 lo_5 p1 re) fun x_7 re_8 =>
    k_b1 (fX1_choose lo_5 li_2.2.1 p1) fun x_10 =>
    k_b1 (fX0_become N x_7 x_10 ru) fun ru_12 =>
    k_b1 (fX0_half ru_12 p2) fun x_14 =>
    some (x_14, li_2, lo_5, re_8, ru_12)
  else
    some (((-1000000000000000000 : Int64) + (x_1).toInt64), li_2, lo, re, ru)
def fX6_thousandths (p0 : Int64) (p2 : Int32) : Option (Int64) :=
  some (((p0 / (1000 : Int64)) * (p2).toInt64) + (((p0 - p0 / (1000 : Int64) * (1000 : Int64)) * (p2).toInt64) / (1000 : Int64)))
def fX6_enough_b47 (N : Nat) (now : VX3) (k47 : Int32 → Int32 → VX4 → VX1 → VX2 → Option (Int32 × VX4 × VX1 × VX2)) (v1 : Int32) (v2 : Int32) (li : VX4) (lo : VX1) (re : VX2) : Option (Int32 × VX4 × VX1 × VX2) :=
  if li.2.1 < v2 then
    some ((-6), li, lo, re)
  else
    k_b2 (fX6_waysToBeWrong N now li lo v2 re) fun x_2 re_3 =>
    k_b1 (fX1_choose lo li.2.1 v2) fun x_5 =>
    k_b1 (fX6_thousandths x_5 v1) fun x_7 =>
    if x_7 < x_2 then
      k47 v1 (v2 + 1) li lo re_3
    else
      some (v2, li, lo, re_3)
def fX6_enough_l47 (N : Nat) (now : VX3) : Nat → Int32 → Int32 → VX4 → VX1 → VX2 → Option (Int32 × VX4 × VX1 × VX2)
  | 0, _, _, _, _, _ => none
  | n0 + 1, v1, v2, li, lo, re => fX6_enough_b47 N now (fX6_enough_l47 N now n0) v1 v2 li lo re
def fX6_enough (N : Nat) (now : VX3) (p1 : Int32) (li : VX4) (lo : VX1) (re : VX2) : Option (Int32 × VX4 × VX1 × VX2) :=
  k_b1 (fX6_isWithin p1 0 1000) fun x_1 =>
  if x_1 = true then
    k_b1 (fX6_readList N now li) fun li_4 =>
    if li_4.2.2.2.2.2.2 = true then
      some ((-3), li_4, lo, re)
    else
      if li_4.2.1 = 0 then
        some ((-3), li_4, lo, re)
      else
        k_b1 (fX6_layList N li_4 lo) fun lo_8 =>
        fX6_enough_l47 N now N p1 1 li_4 lo_8 re
  else
    some ((-2), li, lo, re)
def fX6_worth (N : Nat) (now : VX3) (p1 : Int32) (p2 : Int32) (p3 : Int32) (p4 : Int32) (li : VX4) (re : VX2) (ru : VX0) (ot : VX0) : Option (Int64 × VX4 × VX2 × VX0 × VX0) :=
  k_b1 (fX6_readList N now li) fun li_1 =>
  k_b1 (fX6_isWithin p1 1 li_1.2.1) fun x_3 =>
  if x_3 = true then
    k_b1 (fX6_isNumber p2) fun x_6 =>
    if x_6 = true then
      k_b1 (fX6_isNumber p3) fun x_9 =>
      if x_9 = true then
        k_b1 (fX6_isPart p4) fun x_12 =>
        if x_12 = true then
          k_b2 (fX2_reckon N 11 now.2.2.2.1 li_1.2.1 p1 p2 p3 re) fun x_15 re_16 =>
          if x_15 = true then
            k_b1 (fX2_upper re_16) fun x_19 =>
            k_b1 (fX2_lower re_16) fun x_21 =>
            k_b1 (fX0_become N x_19 x_21 ru) fun ru_23 =>
            k_b2 (fX2_reckon N 11 now.2.2.2.1 li_1.2.1 p1 p2 (p3 + 1) re_16) fun x_25 re_26 =>
            if x_25 = true then
              k_b1 (fX2_upper re_26) fun x_29 =>
              k_b1 (fX2_lower re_26) fun x_31 =>
              k_b1 (fX0_become N x_29 x_31 ot) fun ot_33 =>
              k_b1 (fX0_lessen N ot_33 ru_23) fun ru_35 =>
              k_b1 (fX0_half ru_35 p4) fun x_37 =>
              some (x_37, li_1, re_26, ru_35, ot_33)
            else
              some ((-1000000000000000005 : Int64), li_1, re_26, ru_23, ot)
          else
            some ((-1000000000000000005 : Int64), li_1, re_16, ru, ot)
        else
          some ((-1000000000000000002 : Int64), li_1, re, ru, ot)
      else
        some ((-1000000000000000002 : Int64), li_1, re, ru, ot)
    else
      some ((-1000000000000000002 : Int64), li_1, re, ru, ot)
  else
    some ((-1000000000000000002 : Int64), li_1, re, ru, ot)
def fX6_isGatherer (p0 : Int32) : Option (Bool) :=
  k_b1 (fX6_isWithin p0 0 4) fun x_1 =>
  some x_1
def fX6_sheetsOf_b39 (N : Nat) (now : VX3) (k4 : Int32 → Int32 → Int32 → Option (Int32)) (v1 : Int32) (v2 : Int32) (v3 : Int32) : Option (Int32) :=
  k4 v1 v2 (v3 + 1)
def fX6_sheetsOf_b4 (N : Nat) (now : VX3) (k4 : Int32 → Int32 → Int32 → Option (Int32)) (v1 : Int32) (v2 : Int32) (v3 : Int32) : Option (Int32) :=
  if 6 ≤ v3 then
    some v2
  else
    k_b1 (fX3_isStruck now v3) fun x_2 =>
    if x_2 = true then
      fX6_sheetsOf_b39 N now k4 v1 v2 v3
    else
      k_b1 (fX3_gathererOf now v3) fun x_5 =>
      if x_5 = v1 then
        fX6_sheetsOf_b39 N now k4 v1 (v2 ||| ((1 : Int32) <<< (v3 &&& 31))) v3
      else
        fX6_sheetsOf_b39 N now k4 v1 v2 v3
def fX6_sheetsOf_l4 (N : Nat) (now : VX3) : Nat → Int32 → Int32 → Int32 → Option (Int32)
  | 0, _, _, _ => none
  | n0 + 1, v1, v2, v3 => fX6_sheetsOf_b4 N now (fX6_sheetsOf_l4 N now n0) v1 v2 v3
def fX6_sheetsOf (N : Nat) (now : VX3) (p1 : Int32) : Option (Int32) :=
  fX6_sheetsOf_l4 N now N p1 0 0
def fX6_gatherer (N : Nat) (now : VX3) (p1 : Int32) (p2 : Int32) (so : VX4) : Option (Int32 × VX4) :=
  k_b1 (fX6_isGatherer p1) fun x_1 =>
  if x_1 = true then
    k_b1 (fX6_isWithin p2 0 1) fun x_4 =>
    if x_4 = true then
      k_b1 (fX6_sheetsOf N now p1) fun x_7 =>
      k_b1 (fX4_readSheets N now x_7 so) fun so_9 =>
      if p2 = 0 then
        some (so_9.2.1, so_9)
      else
        some (so_9.2.2.1, so_9)
    else
      some ((-2), so)
  else
    some ((-1), so)
def fX6_oddsByLot_ru_b27 (N : Nat) (now : VX3) (li : VX4) (lo : VX1) (k27 : Int64 → Int32 → VX4 → VX0 → Option (VX4 × VX0)) (v3 : Int64) (v5 : Int32) (so : VX4) (ru : VX0) : Option (VX4 × VX0) :=
  if so.2.1 < v5 then
    k_b1 (fX1_choose lo li.2.1 so.2.1) fun x_2 =>
    k_b1 (fX0_become N v3 x_2 ru) fun ru_4 =>
    some (so, ru_4)
  else
    k_b1 (fX1_choose lo li.2.2.1 v5) fun x_6 =>
    k_b1 (fX4_valid li) fun x_8 =>
    k_b1 (fX1_choose lo x_8 (so.2.1 - v5)) fun x_10 =>
    k27 (v3 + (x_6 * x_10)) (v5 + 1) so ru
def fX6_oddsByLot_ru_l27 (N : Nat) (now : VX3) (li : VX4) (lo : VX1) : Nat → Int64 → Int32 → VX4 → VX0 → Option (VX4 × VX0)
  | 0, _, _, _, _ => none
  | n0 + 1, v3, v5, so, ru => fX6_oddsByLot_ru_b27 N now li lo (fX6_oddsByLot_ru_l27 N now li lo n0) v3 v5 so ru
def fX6_oddsByLot_ru (N : Nat) (now : VX3) (li : VX4) (lo : VX1) (p1 : Int32) (so : VX4) (ru : VX0) : Option (VX4 × VX0) :=
  k_b1 (fX6_sheetsOf N now p1) fun x_1 =>
  k_b1 (fX4_readSheets N now x_1 so) fun so_3 =>
  fX6_oddsByLot_ru_l27 N now li lo N (0 : Int64) so_3.2.2.1 so_3 ru
def fX6_oddsByLot_ot_b27 (N : Nat) (now : VX3) (li : VX4) (lo : VX1) (k27 : Int64 → Int32 → VX4 → VX0 → Option (VX4 × VX0)) (v3 : Int64) (v5 : Int32) (so : VX4) (ot : VX0) : Option (VX4 × VX0) :=
  if so.2.1 < v5 then
    k_b1 (fX1_choose lo li.2.1 so.2.1) fun x_2 =>
    k_b1 (fX0_become N v3 x_2 ot) fun ot_4 =>
    some (so, ot_4)
  else
    k_b1 (fX1_choose lo li.2.2.1 v5) fun x_6 =>
    k_b1 (fX4_valid li) fun x_8 =>
    k_b1 (fX1_choose lo x_8 (so.2.1 - v5)) fun x_10 =>
    k27 (v3 + (x_6 * x_10)) (v5 + 1) so ot
def fX6_oddsByLot_ot_l27 (N : Nat) (now : VX3) (li : VX4) (lo : VX1) : Nat → Int64 → Int32 → VX4 → VX0 → Option (VX4 × VX0)
  | 0, _, _, _, _ => none
  | n0 + 1, v3, v5, so, ot => fX6_oddsByLot_ot_b27 N now li lo (fX6_oddsByLot_ot_l27 N now li lo n0) v3 v5 so ot
def fX6_oddsByLot_ot (N : Nat) (now : VX3) (li : VX4) (lo : VX1) (p1 : Int32) (so : VX4) (ot : VX0) : Option (VX4 × VX0) :=
  k_b1 (fX6_sheetsOf N now p1) fun x_1 =>
  k_b1 (fX4_readSheets N now x_1 so) fun so_3 =>
  fX6_oddsByLot_ot_l27 N now li lo N (0 : Int64) so_3.2.2.1 so_3 ot
def fX6_seems (N : Nat) (now : VX3) (lo : VX1) (p1 : Int32) (p2 : Int32) (li : VX4) (so : VX4) (ru : VX0) : Option (Int64 × VX4 × VX4 × VX0) :=
  k_b1 (fX6_isGatherer p1) fun x_1 =>
  if x_1 = true then
    k_b1 (fX6_isPart p2) fun x_4 =>
    if x_4 = true then
      k_b1 (fX6_readList N now li) fun li_7 =>
      k_b2 (fX6_oddsByLot_ru N now li_7 lo p1 so ru) fun so_9 ru_10 =>
      k_b1 (fX0_half ru_10 p2) fun x_12 =>
      some (x_12, li_7, so_9, ru_10)
    else
      some ((-1000000000000000002 : Int64), li, so, ru)
  else
    some ((-1000000000000000001 : Int64), li, so, ru)
def fX6_hasNames (N : Nat) (now : VX3) (p1 : Int32) (so : VX4) : Option (Bool × VX4) :=
  k_b1 (fX6_sheetsOf N now p1) fun x_1 =>
  k_b1 (fX4_readSheets N now x_1 so) fun so_3 =>
  if so_3.2.1 ≤ 0 then
    some (false, so_3)
  else
    some (true, so_3)
def fX6_suspect_b77 (N : Nat) (now : VX3) (lo : VX1) (k9 : Int32 → Int32 → VX4 → VX4 → VX0 → VX0 → Option (Int32 × VX4 × VX4 × VX0 × VX0)) (v1 : Int32) (v2 : Int32) (li : VX4) (so : VX4) (ru : VX0) (ot : VX0) : Option (Int32 × VX4 × VX4 × VX0 × VX0) :=
  k9 v1 (v2 + 1) li so ru ot
def fX6_suspect_b54 (N : Nat) (now : VX3) (lo : VX1) (k9 : Int32 → Int32 → VX4 → VX4 → VX0 → VX0 → Option (Int32 × VX4 × VX4 × VX0 × VX0)) (v2 : Int32) (li : VX4) (so : VX4) (ru : VX0) (ot : VX0) : Option (Int32 × VX4 × VX4 × VX0 × VX0) :=
  k_b1 (fX0_become N ot.1 ot.2 ru) fun ru_1 =>
  fX6_suspect_b77 N now lo k9 v2 v2 li so ru_1 ot
def fX6_suspect_b9 (N : Nat) (now : VX3) (lo : VX1) (k9 : Int32 → Int32 → VX4 → VX4 → VX0 → VX0 → Option (Int32 × VX4 × VX4 × VX0 × VX0)) (v1 : Int32) (v2 : Int32) (li : VX4) (so : VX4) (ru : VX0) (ot : VX0) : Option (Int32 × VX4 × VX4 × VX0 × VX0) :=
  if 5 ≤ v2 then
    some (v1, li, so, ru, ot)
  else
    k_b2 (fX6_hasNames N now v2 so) fun x_2 so_3 =>
    if x_2 = true then
      k_b2 (fX6_oddsByLot_ot N now li lo v2 so_3 ot) fun so_6 ot_7 =>
      if v1 = (-6) then
        fX6_suspect_b54 N now lo k9 v2 li so_6 ru ot_7
      else
        k_b1 (fX0_isLessThan N ot_7 ru) fun x_10 =>
        if x_10 = true then
          fX6_suspect_b54 N now lo k9 v2 li so_6 ru ot_7
        else
          fX6_suspect_b77 N now lo k9 v1 v2 li so_6 ru ot_7
    else
      fX6_suspect_b77 N now lo k9 v1 v2 li so_3 ru ot
def fX6_suspect_l9 (N : Nat) (now : VX3) (lo : VX1) : Nat → Int32 → Int32 → VX4 → VX4 → VX0 → VX0 → Option (Int32 × VX4 × VX4 × VX0 × VX0)
  | 0, _, _, _, _, _, _ => none
  | n0 + 1, v1, v2, li, so, ru, ot => fX6_suspect_b9 N now lo (fX6_suspect_l9 N now lo n0) v1 v2 li so ru ot
def fX6_suspect (N : Nat) (now : VX3) (lo : VX1) (li : VX4) (so : VX4) (ru : VX0) (ot : VX0) : Option (Int32 × VX4 × VX4 × VX0 × VX0) :=
  k_b1 (fX6_readList N now li) fun li_1 =>
  fX6_suspect_l9 N now lo N (-6) 0 li_1 so ru ot
def fX6_gatherersWithNames_b20 (N : Nat) (now : VX3) (k4 : Int32 → Int32 → VX4 → Option (Int32 × VX4)) (v1 : Int32) (v2 : Int32) (so : VX4) : Option (Int32 × VX4) :=
  k4 v1 (v2 + 1) so
def fX6_gatherersWithNames_b4 (N : Nat) (now : VX3) (k4 : Int32 → Int32 → VX4 → Option (Int32 × VX4)) (v1 : Int32) (v2 : Int32) (so : VX4) : Option (Int32 × VX4) :=
  if 5 ≤ v2 then
    some (v1, so)
  else
    k_b2 (fX6_hasNames N now v2 so) fun x_2 so_3 =>
    if x_2 = true then
      fX6_gatherersWithNames_b20 N now k4 (v1 + 1) v2 so_3
    else
      fX6_gatherersWithNames_b20 N now k4 v1 v2 so_3
def fX6_gatherersWithNames_l4 (N : Nat) (now : VX3) : Nat → Int32 → Int32 → VX4 → Option (Int32 × VX4)
  | 0, _, _, _ => none
  | n0 + 1, v1, v2, so => fX6_gatherersWithNames_b4 N now (fX6_gatherersWithNames_l4 N now n0) v1 v2 so
def fX6_gatherersWithNames (N : Nat) (now : VX3) (so : VX4) : Option (Int32 × VX4) :=
  fX6_gatherersWithNames_l4 N now N 0 0 so
def fX6_shared (N : Nat) (now : VX3) (lo : VX1) (p1 : Int32) (p2 : Int32) (li : VX4) (so : VX4) (ru : VX0) : Option (Int64 × VX4 × VX4 × VX0) :=
  k_b1 (fX6_isGatherer p1) fun x_1 =>
  if x_1 = true then
    k_b1 (fX6_isPart p2) fun x_4 =>
    if x_4 = true then
      k_b1 (fX6_readList N now li) fun li_7 =>
      k_b2 (fX6_oddsByLot_ru N now li_7 lo p1 so ru) fun so_9 ru_10 =>
      k_b2 (fX6_gatherersWithNames N now so_9) fun x_12 so_13 =>
      k_b1 (fX0_become N (if ru_10.2 < (ru_10.1 * (x_12).toInt64) then ru_10.2 else (ru_10.1 * (x_12).toInt64)) ru_10.2 ru_10) fun ru_15 =>
      k_b1 (fX0_half ru_15 p2) fun x_17 =>
      some (x_17, li_7, so_13, ru_15)
    else
      some ((-1000000000000000002 : Int64), li, so, ru)
  else
    some ((-1000000000000000001 : Int64), li, so, ru)
def fX6_fine (p1 : Int32) (p2 : Int32) (p3 : Int32) : Option (Int32) :=
  k_b1 (fX6_isWithin p1 0 999) fun x_1 =>
  if x_1 = true then
    k_b1 (fX6_isWithin p2 0 10) fun x_4 =>
    if x_4 = true then
      k_b1 (fX6_isWithin p3 0 999) fun x_7 =>
      if x_7 = true then
        if p2 = 0 then
          if p3 = 0 then
            some 0
          else
            some (-6)
        else
          if p2 = 0 then none else
          some (if (0 : Int32) < (((((p3 * 10) + p2) - 1) / p2) - p1) then (((((p3 * 10) + p2) - 1) / p2) - p1) else (0 : Int32))
      else
        some (-2)
    else
      some (-2)
  else
    some (-2)
def fX6_word (N : Nat) (now : VX3) (p1 : Int32) (p2 : Int32) (p3 : Int32) (li : VX4) (ru : VX0) : Option (Int64 × VX4 × VX0) :=
  k_b1 (fX6_isWithin p1 0 10) fun x_1 =>
  if x_1 = true then
    k_b1 (fX6_isWithin p2 0 10) fun x_4 =>
    if x_4 = true then
      k_b1 (fX6_isPart p3) fun x_7 =>
      if x_7 = true then
        k_b1 (fX6_readList N now li) fun li_10 =>
        if li_10.2.1 = 0 then
          some ((-1000000000000000005 : Int64), li_10, ru)
        else
          k_b1 (fX4_valid li_10) fun x_13 =>
          k_b1 (fX0_become N ((x_13).toInt64 * (p1).toInt64) (((x_13).toInt64 * (p1).toInt64) + ((li_10.2.2.1).toInt64 * (p2).toInt64)) ru) fun ru_15 =>
          k_b1 (fX0_half ru_15 p3) fun x_17 =>
          some (x_17, li_10, ru_15)
      else
        some ((-1000000000000000002 : Int64), li, ru)
    else
      some ((-1000000000000000002 : Int64), li, ru)
  else
    some ((-1000000000000000002 : Int64), li, ru)
def fX6_lossWithout (N : Nat) (now : VX3) (li : VX4) (p1 : Int32) (so : VX4) : Option (Int32 × VX4) :=
  k_b1 (fX4_readSheets N now (((63 : Int32) &&& (now.2.2.2.2.1 ^^^ (-1))) &&& (((1 : Int32) <<< (p1 &&& 31)) ^^^ (-1))) so) fun so_1 =>
  k_b1 (fX4_good li) fun x_3 =>
  k_b1 (fX4_good so_1) fun x_5 =>
  some ((x_3 - x_5), so_1)
def fX6_strike (N : Nat) (now : VX3) (p1 : Int32) (li : VX4) (so : VX4) : Option (Int32 × VX4 × VX4) :=
  k_b1 (fX6_isSheet p1) fun x_1 =>
  if x_1 = true then
    k_b1 (fX6_readList N now li) fun li_4 =>
    if li_4.2.2.2.2.2.2 = true then
      some ((-3), li_4, so)
    else
      k_b1 (fX3_isStruck now p1) fun x_7 =>
      if x_7 = true then
        some ((-3), li_4, so)
      else
        k_b2 (fX6_lossWithout N now li_4 p1 so) fun x_10 so_11 =>
        some (x_10, li_4, so_11)
  else
    some ((-1), li, so)
def fX6_worst_b63 (N : Nat) (now : VX3) (k24 : Int32 → Int32 → Int32 → VX4 → VX4 → Option (Int32 × VX4 × VX4)) (v1 : Int32) (v2 : Int32) (v3 : Int32) (li : VX4) (so : VX4) : Option (Int32 × VX4 × VX4) :=
  k24 v1 v2 (v3 + 1) li so
def fX6_worst_b50 (N : Nat) (now : VX3) (k24 : Int32 → Int32 → Int32 → VX4 → VX4 → Option (Int32 × VX4 × VX4)) (v1 : Int32) (v2 : Int32) (v3 : Int32) (s0 : Int32) (li : VX4) (so : VX4) : Option (Int32 × VX4 × VX4) :=
  if s0 ≤ v2 then
    fX6_worst_b63 N now k24 v1 v2 v3 li so
  else
    fX6_worst_b63 N now k24 v3 s0 v3 li so
def fX6_worst_b24 (N : Nat) (now : VX3) (k24 : Int32 → Int32 → Int32 → VX4 → VX4 → Option (Int32 × VX4 × VX4)) (v1 : Int32) (v2 : Int32) (v3 : Int32) (li : VX4) (so : VX4) : Option (Int32 × VX4 × VX4) :=
  if 6 ≤ v3 then
    some (v1, li, so)
  else
    k_b1 (fX3_isStruck now v3) fun x_2 =>
    if x_2 = true then
      fX6_worst_b50 N now k24 v1 v2 v3 (-1) li so
    else
      k_b2 (fX6_lossWithout N now li v3 so) fun x_5 so_6 =>
      fX6_worst_b50 N now k24 v1 v2 v3 x_5 li so_6
def fX6_worst_l24 (N : Nat) (now : VX3) : Nat → Int32 → Int32 → Int32 → VX4 → VX4 → Option (Int32 × VX4 × VX4)
  | 0, _, _, _, _, _ => none
  | n0 + 1, v1, v2, v3, li, so => fX6_worst_b24 N now (fX6_worst_l24 N now n0) v1 v2 v3 li so
def fX6_worst (N : Nat) (now : VX3) (li : VX4) (so : VX4) : Option (Int32 × VX4 × VX4) :=
  k_b1 (fX6_readList N now li) fun li_1 =>
  if li_1.2.2.2.2.2.2 = true then
    some ((-3), li_1, so)
  else
    fX6_worst_l24 N now N (-6) (-1) 0 li_1 so
def fX6_against_b97 (N : Nat) (now : VX3) (k80 : Int32 → Int32 → Int32 → Int32 → VX4 → VX1 → VX2 → Option (Int32 × VX4 × VX1 × VX2)) (v1 : Int32) (v2 : Int32) (v3 : Int32) (v4 : Int32) (s0 : Int32) (li : VX4) (lo : VX1) (re : VX2) : Option (Int32 × VX4 × VX1 × VX2) :=
  k_b1 (fX4_singles li) fun x_1 =>
  k_b1 (fX1_lay N (x_1 - s0) ((li.2.2.1 + v4) - s0) (li.2.2.2.2.2.1 + s0) lo) fun lo_3 =>
  k_b2 (fX6_waysToYes N now lo_3 v2 re) fun x_5 re_6 =>
  k_b1 (fX1_all lo_3) fun x_8 =>
  k_b1 (fX1_choose lo_3 x_8 v2) fun x_10 =>
  if x_10 ≤ ((2 : Int64) * x_5) then
    k80 v1 v2 v3 (v4 + 1) li lo_3 re_6
  else
    some (v4, li, lo_3, re_6)
def fX6_against_b80 (N : Nat) (now : VX3) (k80 : Int32 → Int32 → Int32 → Int32 → VX4 → VX1 → VX2 → Option (Int32 × VX4 × VX1 × VX2)) (v1 : Int32) (v2 : Int32) (v3 : Int32) (v4 : Int32) (li : VX4) (lo : VX1) (re : VX2) : Option (Int32 × VX4 × VX1 × VX2) :=
  if v3 < v4 then
    some ((-6), li, lo, re)
  else
    if v1 = 1 then
      fX6_against_b97 N now k80 v1 v2 v3 v4 v4 li lo re
    else
      fX6_against_b97 N now k80 v1 v2 v3 v4 0 li lo re
def fX6_against_l80 (N : Nat) (now : VX3) : Nat → Int32 → Int32 → Int32 → Int32 → VX4 → VX1 → VX2 → Option (Int32 × VX4 × VX1 × VX2)
  | 0, _, _, _, _, _, _, _ => none
  | n0 + 1, v1, v2, v3, v4, li, lo, re => fX6_against_b80 N now (fX6_against_l80 N now n0) v1 v2 v3 v4 li lo re
def fX6_against_b77 (N : Nat) (now : VX3) (v1 : Int32) (v2 : Int32) (v3 : Int32) (li : VX4) (lo : VX1) (re : VX2) : Option (Int32 × VX4 × VX1 × VX2) :=
  fX6_against_l80 N now N v1 v2 v3 0 li lo re
def fX6_against (N : Nat) (now : VX3) (p1 : Int32) (p2 : Int32) (li : VX4) (lo : VX1) (re : VX2) : Option (Int32 × VX4 × VX1 × VX2) :=
  k_b1 (fX6_readList N now li) fun li_1 =>
  k_b1 (fX6_isWithin p1 0 1) fun x_3 =>
  if x_3 = true then
    k_b1 (fX6_isWithin p2 1 li_1.2.1) fun x_6 =>
    if x_6 = true then
      if li_1.2.2.2.2.2.2 = true then
        some ((-3), li_1, lo, re)
      else
        k_b1 (some ((if ((60 : Int32) - li_1.2.1) < (30 : Int32) then ((60 : Int32) - li_1.2.1) else (30 : Int32)))) fun x_10 =>
        if p1 = 1 then
          k_b1 (some ((if li_1.2.2.2.1 < x_10 then li_1.2.2.2.1 else x_10))) fun x_13 =>
          fX6_against_b77 N now p1 p2 x_13 li_1 lo re
        else
          fX6_against_b77 N now p1 p2 x_10 li_1 lo re
    else
      some ((-2), li_1, lo, re)
  else
    some ((-2), li_1, lo, re)
def fX6_numberList_b77 (N : Nat) (now : VX3) (k4 : Int32 → Int32 → (Nat → Int32) → Option (Int32 × (Nat → Int32))) (v1 : Int32) (v2 : Int32) (le : Nat → Int32) : Option (Int32 × (Nat → Int32)) :=
  k4 v1 (v2 + 1) le
def fX6_numberList_b37 (N : Nat) (now : VX3) (k4 : Int32 → Int32 → (Nat → Int32) → Option (Int32 × (Nat → Int32))) (k37 : Int32 → Int32 → Int32 → Int32 → (Nat → Int32) → Option (Int32 × (Nat → Int32))) (v1 : Int32) (v2 : Int32) (v3 : Int32) (v4 : Int32) (le : Nat → Int32) : Option (Int32 × (Nat → Int32)) :=
  if v3 ≤ v4 then
    fX6_numberList_b77 N now k4 v1 v2 le
  else
    if 60 ≤ v1 then
      fX6_numberList_b77 N now k4 v1 v2 le
    else
      k_b1 (fX3_signOf now v2 v4) fun x_3 =>
      if k_in v1 60 then
      k37 (v1 + 1) v2 v3 (v4 + 1) (upd le (v1).toNatClampNeg x_3) else none
def fX6_numberList_l37 (N : Nat) (now : VX3) (k4 : Int32 → Int32 → (Nat → Int32) → Option (Int32 × (Nat → Int32))) : Nat → Int32 → Int32 → Int32 → Int32 → (Nat → Int32) → Option (Int32 × (Nat → Int32))
  | 0, _, _, _, _, _ => none
  | n0 + 1, v1, v2, v3, v4, le => fX6_numberList_b37 N now k4 (fX6_numberList_l37 N now k4 n0) v1 v2 v3 v4 le
def fX6_numberList_b33 (N : Nat) (now : VX3) (k4 : Int32 → Int32 → (Nat → Int32) → Option (Int32 × (Nat → Int32))) (v1 : Int32) (v2 : Int32) (s0 : Int32) (le : Nat → Int32) : Option (Int32 × (Nat → Int32)) :=
  fX6_numberList_l37 N now k4 N v1 v2 s0 0 le
def fX6_numberList_b4 (N : Nat) (now : VX3) (k4 : Int32 → Int32 → (Nat → Int32) → Option (Int32 × (Nat → Int32))) (v1 : Int32) (v2 : Int32) (le : Nat → Int32) : Option (Int32 × (Nat → Int32)) :=
  if 6 ≤ v2 then
    some (v1, le)
  else
    k_b1 (fX3_isStruck now v2) fun x_2 =>
    if x_2 = true then
      fX6_numberList_b33 N now k4 v1 v2 0 le
    else
      k_b1 (fX3_sizeOf now v2) fun x_5 =>
      fX6_numberList_b33 N now k4 v1 v2 x_5 le
def fX6_numberList_l4 (N : Nat) (now : VX3) : Nat → Int32 → Int32 → (Nat → Int32) → Option (Int32 × (Nat → Int32))
  | 0, _, _, _ => none
  | n0 + 1, v1, v2, le => fX6_numberList_b4 N now (fX6_numberList_l4 N now n0) v1 v2 le
def fX6_numberList (N : Nat) (now : VX3) (le : Nat → Int32) : Option (Int32 × (Nat → Int32)) :=
  fX6_numberList_l4 N now N 0 0 le
def fX6_takeOut_b31 (N : Nat) (k31 : Int32 → Int32 → Int32 → (Nat → Int32) → Option (Int32 × (Nat → Int32))) (v2 : Int32) (v3 : Int32) (v4 : Int32) (le : Nat → Int32) : Option (Int32 × (Nat → Int32)) :=
  if v2 ≤ (v4 + 1) then
    some (v3, le)
  else
    if k_in (v4 + 1) 60 then
    if k_in v4 60 then
    k31 v2 v3 (v4 + 1) (upd le (v4).toNatClampNeg (le (v4 + 1).toNatClampNeg)) else none else none
def fX6_takeOut_l31 (N : Nat) : Nat → Int32 → Int32 → Int32 → (Nat → Int32) → Option (Int32 × (Nat → Int32))
  | 0, _, _, _, _ => none
  | n0 + 1, v2, v3, v4, le => fX6_takeOut_b31 N (fX6_takeOut_l31 N n0) v2 v3 v4 le
def fX6_takeOut (N : Nat) (p1 : Int32) (p2 : Int32) (le : Nat → Int32) : Option (Int32 × (Nat → Int32)) :=
  if p1 < 0 then
    some ((-6), le)
  else
    if p2 ≤ p1 then
      some ((-6), le)
    else
      if p2 ≤ 60 then
        if k_in p1 60 then
        fX6_takeOut_l31 N N p2 (le p1.toNatClampNeg) p1 le else none
      else
        some ((-6), le)
def fX6_drawHeap_b18 (N : Nat) (now : VX3) (k18 : Int32 → Int32 → Int32 → Int32 → VX4 → (Nat → Int32) → Option (VX4 × (Nat → Int32))) (v2 : Int32) (v3 : Int32) (v4 : Int32) (v5 : Int32) (so : VX4) (le : Nat → Int32) : Option (VX4 × (Nat → Int32)) :=
  if v2 ≤ v5 then
    some (so, le)
  else
    if v3 ≤ 0 then
      some (so, le)
    else
      if (65537 : Int32) = 0 then none else
      k_b1 (some (((v4 * 75) + 74) - ((v4 * 75) + 74) / (65537 : Int32) * (65537 : Int32))) fun x_4 =>
      if v3 = 0 then none else
      k_b2 (fX6_takeOut N (x_4 - x_4 / v3 * v3) v3 le) fun x_7 le_8 =>
      k_b1 (fX4_add x_7 so) fun so_10 =>
      k18 v2 (v3 + (-1)) x_4 (v5 + 1) so_10 le_8
def fX6_drawHeap_l18 (N : Nat) (now : VX3) : Nat → Int32 → Int32 → Int32 → Int32 → VX4 → (Nat → Int32) → Option (VX4 × (Nat → Int32))
  | 0, _, _, _, _, _, _ => none
  | n0 + 1, v2, v3, v4, v5, so, le => fX6_drawHeap_b18 N now (fX6_drawHeap_l18 N now n0) v2 v3 v4 v5 so le
def fX6_drawHeap (N : Nat) (now : VX3) (p1 : Int32) (p2 : Int32) (so : VX4) (le : Nat → Int32) : Option (VX4 × (Nat → Int32)) :=
  k_b2 (fX6_numberList N now le) fun x_1 le_2 =>
  k_b1 (fX4_clear N so) fun so_4 =>
  fX6_drawHeap_l18 N now N p2 x_1 p1 0 so_4 le_2
def fX6_heap (N : Nat) (now : VX3) (p1 : Int32) (p2 : Int32) (p3 : Int32) (li : VX4) (so : VX4) (re : VX2) (le : Nat → Int32) : Option (Int32 × VX4 × VX4 × VX2 × (Nat → Int32)) :=
  k_b1 (fX6_readList N now li) fun li_1 =>
  k_b1 (fX6_isWithin p1 0 9999) fun x_3 =>
  if x_3 = true then
    k_b1 (fX6_isWithin p2 1 li_1.2.1) fun x_6 =>
    if x_6 = true then
      k_b1 (fX6_isWithin p3 0 2) fun x_9 =>
      if x_9 = true then
        if li_1.2.2.2.2.2.2 = true then
          some ((-3), li_1, so, re, le)
        else
          k_b2 (fX6_drawHeap N now p1 p2 so le) fun so_13 le_14 =>
          if p3 = 0 then
            k_b1 (fX4_valid so_13) fun x_22 =>
            some (x_22, li_1, so_13, re, le_14)
          else
            if p3 = 1 then
              some (so_13.2.2.2.2.2.1, li_1, so_13, re, le_14)
            else
              k_b2 (fX6_someSaysYes N now li_1 so_13 re) fun x_18 re_19 =>
              if x_18 = true then
                some (1, li_1, so_13, re_19, le_14)
              else
                some (0, li_1, so_13, re_19, le_14)
      else
        some ((-2), li_1, so, re, le)
    else
      some ((-2), li_1, so, re, le)
  else
    some ((-2), li_1, so, re, le)
def fX6_imageOf (a : Nat → Nat) (p1 : Int32) : Option (Nat) :=
  if p1 = 0 then
    some (a 9)
  else
    some (a 15)
def fX6_image (N : Nat) (now : VX3) (p1 : Int32) (fi : VX3) (se : VX3) : Option (Int32 × VX3 × VX3) :=
  k_b1 (fX6_isWithin p1 0 1) fun x_1 =>
  if x_1 = true then
    if p1 = 0 then
      k_b1 (fX3_become N now fi) fun fi_5 =>
      some (1, (fi_5.1, fi_5.2.1, fi_5.2.2.1, fi_5.2.2.2.1, fi_5.2.2.2.2.1, fi_5.2.2.2.2.2.1, true), se)
    else
      k_b1 (fX3_become N now se) fun se_7 =>
      some (1, fi, (se_7.1, se_7.2.1, se_7.2.2.1, se_7.2.2.2.1, se_7.2.2.2.2.1, se_7.2.2.2.2.2.1, true))
  else
    some ((-2), fi, se)
def fX6_restore (N : Nat) (fi : VX3) (se : VX3) (p1 : Int32) (now : VX3) : Option (Int32 × VX3) :=
  k_b1 (fX6_isWithin p1 0 1) fun x_1 =>
  if x_1 = true then
    if p1 = 0 then
      if fi.2.2.2.2.2.2 = true then
        k_b1 (fX3_become N fi now) fun now_6 =>
        some (1, now_6)
      else
        some ((-3), now)
    else
      if se.2.2.2.2.2.2 = true then
        k_b1 (fX3_become N se now) fun now_9 =>
        some (1, now_9)
      else
        some ((-3), now)
  else
    some ((-2), now)
def fX6_told (pad : VX5) (now : VX3) (p1 : Int32) : Option (Int32) :=
  k_b1 (fX6_isSheet (p1 - 10)) fun x_1 =>
  if x_1 = true then
    k_b1 (fX3_gathererOf now (p1 - 10)) fun x_13 =>
    some x_13
  else
    k_b1 (fX6_isSheet (p1 - 20)) fun x_4 =>
    if x_4 = true then
      k_b1 (fX3_sizeOf now (p1 - 20)) fun x_11 =>
      some x_11
    else
      if p1 = 0 then
        some pad.2
      else
      if p1 = 1 then
        some now.2.2.2.2.2.1
      else
      if p1 = 2 then
        some now.2.2.2.1.2
      else
      if p1 = 3 then
        some now.2.2.2.2.1
      else
        some (-2)
def fX7_in (p0 : Int32) (p1 : Int32) (p2 : Int32) : Option (Bool) :=
  if p0 < p1 then
    some false
  else
    if p2 < p0 then
      some false
    else
      some true
def fX7_isSheet (p0 : Int32) : Option (Bool) :=
  k_b1 (fX7_in p0 0 5) fun x_1 =>
  some x_1
def fX7_isPart (p0 : Int32) : Option (Bool) :=
  k_b1 (fX7_in p0 0 1) fun x_1 =>
  some x_1
def fX7_ways (mc : Nat → Int64) (p1 : Int32) (p2 : Int32) : Option (Int64) :=
  if p1 < 0 then
    some (0 : Int64)
  else
    if p2 < 0 then
      some (0 : Int64)
    else
      if p2 ≤ p1 then
        if k_in (((61 : Int32) * p1) + p2) 3721 then
        some (mc (((61 : Int32) * p1) + p2).toNatClampNeg) else none
      else
        some (0 : Int64)
def fX7_common_b17 (N : Nat) (k17 : Int64 → Int64 → Option (Int64)) (v4 : Int64) (v6 : Int64) : Option (Int64) :=
  if v6 = (0 : Int64) then
    some v4
  else
    if v6 = 0 then none else
    k17 v6 (v4 - v4 / v6 * v6)
def fX7_common_l17 (N : Nat) : Nat → Int64 → Int64 → Option (Int64)
  | 0, _, _ => none
  | n0 + 1, v4, v6 => fX7_common_b17 N (fX7_common_l17 N n0) v4 v6
def fX7_common_b12 (N : Nat) (v2 : Int64) (s0 : Int64) : Option (Int64) :=
  fX7_common_l17 N N s0 v2
def fX7_common (N : Nat) (p0 : Int64) (p2 : Int64) : Option (Int64) :=
  if (0 : Int64) ≤ p0 then
    fX7_common_b12 N p2 p0
  else
    fX7_common_b12 N p2 (-p0)
def fX7_term (N : Nat) (p0 : Int64) (p2 : Int64) (p4 : Int32) : Option (Int64) :=
  k_b1 (fX7_common N p0 p2) fun x_1 =>
  if p4 = 0 then
    if x_1 = 0 then none else
    some (p0 / x_1)
  else
    if x_1 = 0 then none else
    some (p2 / x_1)
def fX7_say (p1 : Int32) (mp : VMp) : Option (Int32 × VMp) :=
  k_b1 (fX7_in p1 33 126) fun x_1 =>
  if x_1 = true then
    if mp.2 = 16 then
      some ((-4), mp)
    else
      if k_in mp.2 16 then
      some ((mp.2 + 1), (upd mp.1 (mp.2).toNatClampNeg p1, (mp.2 + 1))) else none
  else
    some ((-2), mp)
def fX7_wipe (mp : VMp) : Option (Int32 × VMp) :=
  some (mp.2, (mp.1, (0 : Int32)))
def fX7_isPerson (p0 : Int32) : Option (Bool) :=
  k_b1 (fX7_in p0 65 90) fun x_1 =>
  some x_1
def fX7_isBad (p0 : Int32) : Option (Bool) :=
  if p0 = 115 then
    some true
  else
    if p0 = 109 then
      some true
    else
      if p0 = 117 then
        some true
      else
        some false
def fX7_namesFault_b45 (N : Nat) (mp : VMp) (k2 : Int32 → Option (Int32)) (v1 : Int32) : Option (Int32) :=
  k2 (v1 + 1)
def fX7_namesFault_b2 (N : Nat) (mp : VMp) (k2 : Int32 → Option (Int32)) (v1 : Int32) : Option (Int32) :=
  if mp.2 ≤ v1 then
    some (-6)
  else
    if k_in v1 16 then
    if v1 = 10 then
      some v1
    else
      if (mp.1 v1.toNatClampNeg) = 46 then
        fX7_namesFault_b45 N mp k2 v1
      else
        k_b1 (fX7_isBad (mp.1 v1.toNatClampNeg)) fun x_5 =>
        if x_5 = true then
          fX7_namesFault_b45 N mp k2 v1
        else
          k_b1 (fX7_isPerson (mp.1 v1.toNatClampNeg)) fun x_8 =>
          if x_8 = true then
            fX7_namesFault_b45 N mp k2 v1
          else
            some v1 else none
def fX7_namesFault_l2 (N : Nat) (mp : VMp) : Nat → Int32 → Option (Int32)
  | 0, _ => none
  | n0 + 1, v1 => fX7_namesFault_b2 N mp (fX7_namesFault_l2 N mp n0) v1
def fX7_namesFault (N : Nat) (mp : VMp) : Option (Int32) :=
  fX7_namesFault_l2 N mp N 0
def fX7_isAct (p0 : Int32) : Option (Bool) :=
  if p0 = 43 then
    some true
  else
    if p0 = 45 then
      some true
    else
      if p0 = 42 then
        some true
      else
        if p0 = 47 then
          some true
        else
          some false
def fX7_ruleFault_b96 (N : Nat) (mp : VMp) (k4 : Int32 → Int32 → Option (Int32)) (v2 : Int32) (s0 : Int32) (s1 : Int32) : Option (Int32) :=
  k4 (s0 + s1) (v2 + 1)
def fX7_ruleFault_b85 (N : Nat) (mp : VMp) (k4 : Int32 → Int32 → Option (Int32)) (v1 : Int32) (v2 : Int32) (v4 : Bool) : Option (Int32) :=
  if v4 = true then
    fX7_ruleFault_b96 N mp k4 v2 v1 (-1)
  else
    fX7_ruleFault_b96 N mp k4 v2 v1 1
def fX7_ruleFault_b59 (N : Nat) (mp : VMp) (k4 : Int32 → Int32 → Option (Int32)) (v1 : Int32) (v2 : Int32) (v3 : Int32) (s0 : Bool) : Option (Int32) :=
  if v1 = 0 then
    some v2
  else
    if v2 = 11 then
      some v2
    else
      if s0 = true then
        fX7_ruleFault_b85 N mp k4 v1 v2 s0
      else
        k_b1 (fX7_isAct v3) fun x_4 =>
        if x_4 = true then
          fX7_ruleFault_b85 N mp k4 v1 v2 s0
        else
          some v2
def fX7_ruleFault_b54 (N : Nat) (mp : VMp) (k4 : Int32 → Int32 → Option (Int32)) (v1 : Int32) (v2 : Int32) (v3 : Int32) : Option (Int32) :=
  fX7_ruleFault_b59 N mp k4 v1 v2 v3 true
def fX7_ruleFault_b4 (N : Nat) (mp : VMp) (k4 : Int32 → Int32 → Option (Int32)) (v1 : Int32) (v2 : Int32) : Option (Int32) :=
  if mp.2 ≤ v2 then
    if v1 = 0 then
      some (-6)
    else
      some mp.2
  else
    if k_in v2 16 then
    if (mp.1 v2.toNatClampNeg) = 78 then
      fX7_ruleFault_b54 N mp k4 v1 v2 (mp.1 v2.toNatClampNeg)
    else
      if (mp.1 v2.toNatClampNeg) = 107 then
        fX7_ruleFault_b54 N mp k4 v1 v2 (mp.1 v2.toNatClampNeg)
      else
        if (mp.1 v2.toNatClampNeg) = 118 then
          fX7_ruleFault_b54 N mp k4 v1 v2 (mp.1 v2.toNatClampNeg)
        else
          if (mp.1 v2.toNatClampNeg) = 100 then
            fX7_ruleFault_b54 N mp k4 v1 v2 (mp.1 v2.toNatClampNeg)
          else
            k_b1 (fX7_in (mp.1 v2.toNatClampNeg) 48 57) fun x_8 =>
            if x_8 = true then
              fX7_ruleFault_b54 N mp k4 v1 v2 (mp.1 v2.toNatClampNeg)
            else
              fX7_ruleFault_b59 N mp k4 v1 v2 (mp.1 v2.toNatClampNeg) false else none
def fX7_ruleFault_l4 (N : Nat) (mp : VMp) : Nat → Int32 → Int32 → Option (Int32)
  | 0, _, _ => none
  | n0 + 1, v1, v2 => fX7_ruleFault_b4 N mp (fX7_ruleFault_l4 N mp n0) v1 v2
def fX7_ruleFault (N : Nat) (mp : VMp) : Option (Int32) :=
  fX7_ruleFault_l4 N mp N 1 0
def fX7_fault (N : Nat) (mp : VMp) (p1 : Int32) : Option (Int32) :=
  if p1 = 0 then
    k_b1 (fX7_namesFault N mp) fun x_5 =>
    some x_5
  else
    if p1 = 1 then
      k_b1 (fX7_ruleFault N mp) fun x_3 =>
      some x_3
    else
      some (-2)
def fX7_names_b31 (N : Nat) (k31 : Int32 → Int32 → VMp → VMg → Option (Int32 × VMp × VMg)) (v1 : Int32) (v2 : Int32) (mp : VMp) (mg : VMg) : Option (Int32 × VMp × VMg) :=
  if mp.2 ≤ v2 then
    if k_in v1 6 then
    some ((mg.2.2.1 v1.toNatClampNeg), (mp.1, (0 : Int32)), mg) else none
  else
    if k_in v2 16 then
    if k_in (((10 : Int32) * v1) + v2) 60 then
    k31 v1 (v2 + 1) mp (mg.1, mg.2.1, mg.2.2.1, upd mg.2.2.2.1 ((((10 : Int32) * v1) + v2)).toNatClampNeg (mp.1 v2.toNatClampNeg), mg.2.2.2.2.1, mg.2.2.2.2.2.1, mg.2.2.2.2.2.2) else none else none
def fX7_names_l31 (N : Nat) : Nat → Int32 → Int32 → VMp → VMg → Option (Int32 × VMp × VMg)
  | 0, _, _, _, _ => none
  | n0 + 1, v1, v2, mp, mg => fX7_names_b31 N (fX7_names_l31 N n0) v1 v2 mp mg
def fX7_names (N : Nat) (p1 : Int32) (mp : VMp) (mg : VMg) : Option (Int32 × VMp × VMg) :=
  k_b1 (fX7_isSheet p1) fun x_1 =>
  if x_1 = true then
    k_b1 (fX7_namesFault N mp) fun x_4 =>
    if x_4 < 0 then
      if k_in p1 6 then
      fX7_names_l31 N N p1 0 mp (mg.1, mg.2.1, upd mg.2.2.1 (p1).toNatClampNeg mp.2, mg.2.2.2.1, mg.2.2.2.2.1, mg.2.2.2.2.2.1, mg.2.2.2.2.2.2) else none
    else
      some ((-5), mp, mg)
  else
    some ((-1), mp, mg)
def fX7_set_b57 (v1 : Int32) (v2 : Int32) (v3 : Int32) (s0 : Int32) (mg : VMg) : Option (Int32 × VMg) :=
  if v2 = 0 then
    if k_in v1 6 then
    some (s0, (upd mg.1 (v1).toNatClampNeg v3, mg.2.1, mg.2.2.1, mg.2.2.2.1, mg.2.2.2.2.1, mg.2.2.2.2.2.1, mg.2.2.2.2.2.2)) else none
  else
    if k_in v1 6 then
    some (s0, (mg.1, upd mg.2.1 (v1).toNatClampNeg v3, mg.2.2.1, mg.2.2.2.1, mg.2.2.2.2.1, mg.2.2.2.2.2.1, mg.2.2.2.2.2.2)) else none
def fX7_set_b29 (v1 : Int32) (v2 : Int32) (v3 : Int32) (s0 : Int32) (s2 : Int32) (mg : VMg) : Option (Int32 × VMg) :=
  k_b1 (fX7_in s0 0 s2) fun x_1 =>
  if x_1 = true then
    if v2 = 0 then
      if k_in v1 6 then
      fX7_set_b57 v1 v2 v3 (mg.1 v1.toNatClampNeg) mg else none
    else
      if k_in v1 6 then
      fX7_set_b57 v1 v2 v3 (mg.2.1 v1.toNatClampNeg) mg else none
  else
    some ((-2), mg)
def fX7_set (p1 : Int32) (p2 : Int32) (p3 : Int32) (mg : VMg) : Option (Int32 × VMg) :=
  k_b1 (fX7_isSheet p1) fun x_1 =>
  if x_1 = true then
    k_b1 (fX7_in p2 0 1) fun x_4 =>
    if x_4 = true then
      if p2 = 0 then
        fX7_set_b29 p1 p2 p3 p3 4 mg
      else
        fX7_set_b29 p1 p2 p3 p3 1 mg
    else
      some ((-2), mg)
  else
    some ((-1), mg)
def fX7_sheet (mg : VMg) (p1 : Int32) (p2 : Int32) : Option (Int32) :=
  k_b1 (fX7_isSheet p1) fun x_1 =>
  if x_1 = true then
    if p2 = (-1) then
      if k_in p1 6 then
      some (mg.2.2.1 p1.toNatClampNeg) else none
    else
      if k_in p1 6 then
      k_b1 (fX7_in p2 0 ((mg.2.2.1 p1.toNatClampNeg) - 1)) fun x_6 =>
      if x_6 = true then
        if k_in (((10 : Int32) * p1) + p2) 60 then
        some (mg.2.2.2.1 (((10 : Int32) * p1) + p2).toNatClampNeg) else none
      else
        some (-6) else none
  else
    some (-1)
def fX7_layList_b259 (N : Nat) (mg : VMg) (k182 : Int32 → VMl → Option (VMl)) (v2 : Int32) (s1 : Bool) (ml : VMl) : Option (VMl) :=
  k182 (v2 + 1) (ml.1, ml.2.1, ml.2.2.1, ml.2.2.2.1, ml.2.2.2.2.1, ml.2.2.2.2.2.1, s1)
def fX7_layList_b254 (N : Nat) (mg : VMg) (k182 : Int32 → VMl → Option (VMl)) (v2 : Int32) (ml : VMl) : Option (VMl) :=
  fX7_layList_b259 N mg k182 v2 true ml
def fX7_layList_b232 (N : Nat) (mg : VMg) (k182 : Int32 → VMl → Option (VMl)) (v2 : Int32) (s1 : Int32) (s2 : Bool) (ml : VMl) : Option (VMl) :=
  if ml.2.2.2.2.2.2 = true then
    fX7_layList_b254 N mg k182 v2 (ml.1, ml.2.1, ml.2.2.1, ml.2.2.2.1, ml.2.2.2.2.1, (s1 + (bI s2)), ml.2.2.2.2.2.2)
  else
    if k_in v2 26 then
    if (ml.1 v2.toNatClampNeg) ≤ 2 then
      fX7_layList_b259 N mg k182 v2 false (ml.1, ml.2.1, ml.2.2.1, ml.2.2.2.1, ml.2.2.2.2.1, (s1 + (bI s2)), ml.2.2.2.2.2.2)
    else
      fX7_layList_b254 N mg k182 v2 (ml.1, ml.2.1, ml.2.2.1, ml.2.2.2.1, ml.2.2.2.2.1, (s1 + (bI s2)), ml.2.2.2.2.2.2) else none
def fX7_layList_b208 (N : Nat) (mg : VMg) (k182 : Int32 → VMl → Option (VMl)) (v2 : Int32) (s1 : Int32) (s2 : Bool) (ml : VMl) : Option (VMl) :=
  if k_in v2 26 then
  if (ml.1 v2.toNatClampNeg) = 2 then
    fX7_layList_b232 N mg k182 v2 ml.2.2.2.2.2.1 true (ml.1, ml.2.1, ml.2.2.1, ml.2.2.2.1, (s1 + (bI s2)), ml.2.2.2.2.2.1, ml.2.2.2.2.2.2)
  else
    fX7_layList_b232 N mg k182 v2 ml.2.2.2.2.2.1 false (ml.1, ml.2.1, ml.2.2.1, ml.2.2.2.1, (s1 + (bI s2)), ml.2.2.2.2.2.1, ml.2.2.2.2.2.2) else none
def fX7_layList_b182 (N : Nat) (mg : VMg) (k182 : Int32 → VMl → Option (VMl)) (v2 : Int32) (ml : VMl) : Option (VMl) :=
  if 26 ≤ v2 then
    some ml
  else
    if k_in v2 26 then
    if (ml.1 v2.toNatClampNeg) = 1 then
      fX7_layList_b208 N mg k182 v2 ml.2.2.2.2.1 true ml
    else
      fX7_layList_b208 N mg k182 v2 ml.2.2.2.2.1 false ml else none
def fX7_layList_l182 (N : Nat) (mg : VMg) : Nat → Int32 → VMl → Option (VMl)
  | 0, _, _ => none
  | n0 + 1, v2, ml => fX7_layList_b182 N mg (fX7_layList_l182 N mg n0) v2 ml
def fX7_layList_b174 (N : Nat) (mg : VMg) (k53 : Int32 → Int32 → VMl → Option (VMl)) (v1 : Int32) (v2 : Int32) (ml : VMl) : Option (VMl) :=
  k53 v1 (v2 + 1) ml
def fX7_layList_b168 (N : Nat) (mg : VMg) (k53 : Int32 → Int32 → VMl → Option (VMl)) (k61 : Int32 → Int32 → Int32 → VMl → Option (VMl)) (v1 : Int32) (v2 : Int32) (v3 : Int32) (ml : VMl) : Option (VMl) :=
  k61 v1 v2 (v3 + 1) ml
def fX7_layList_b142 (N : Nat) (mg : VMg) (k53 : Int32 → Int32 → VMl → Option (VMl)) (k61 : Int32 → Int32 → Int32 → VMl → Option (VMl)) (v1 : Int32) (v2 : Int32) (v3 : Int32) (v4 : Int32) (s1 : Int32) (s2 : Bool) (ml : VMl) : Option (VMl) :=
  k_b1 (fX7_isPerson v4) fun x_1 =>
  if x_1 = true then
    if k_in (v4 - 65) 26 then
    if k_in (v4 - 65) 26 then
    fX7_layList_b168 N mg k53 k61 v1 v2 v3 (upd ml.1 ((v4 - 65)).toNatClampNeg ((ml.1 (v4 - 65).toNatClampNeg) + 1), ml.2.1, ml.2.2.1, (s1 + (bI s2)), ml.2.2.2.2.1, ml.2.2.2.2.2.1, ml.2.2.2.2.2.2) else none else none
  else
    fX7_layList_b168 N mg k53 k61 v1 v2 v3 (ml.1, ml.2.1, ml.2.2.1, (s1 + (bI s2)), ml.2.2.2.2.1, ml.2.2.2.2.2.1, ml.2.2.2.2.2.2)
def fX7_layList_b121 (N : Nat) (mg : VMg) (k53 : Int32 → Int32 → VMl → Option (VMl)) (k61 : Int32 → Int32 → Int32 → VMl → Option (VMl)) (v1 : Int32) (v2 : Int32) (v3 : Int32) (v4 : Int32) (s1 : Int32) (s2 : Bool) (ml : VMl) : Option (VMl) :=
  if v4 = 46 then
    fX7_layList_b142 N mg k53 k61 v1 v2 v3 v4 ml.2.2.2.1 true (ml.1, ml.2.1, (s1 + (bI s2)), ml.2.2.2.1, ml.2.2.2.2.1, ml.2.2.2.2.2.1, ml.2.2.2.2.2.2)
  else
    fX7_layList_b142 N mg k53 k61 v1 v2 v3 v4 ml.2.2.2.1 false (ml.1, ml.2.1, (s1 + (bI s2)), ml.2.2.2.1, ml.2.2.2.2.1, ml.2.2.2.2.2.1, ml.2.2.2.2.2.2)
def fX7_layList_b61 (N : Nat) (mg : VMg) (k53 : Int32 → Int32 → VMl → Option (VMl)) (k61 : Int32 → Int32 → Int32 → VMl → Option (VMl)) (v1 : Int32) (v2 : Int32) (v3 : Int32) (ml : VMl) : Option (VMl) :=
  if k_in v2 6 then
  if (mg.2.2.1 v2.toNatClampNeg) ≤ v3 then
    fX7_layList_b174 N mg k53 v1 v2 ml
  else
    if ((v1 >>> (v2 &&& 31)) &&& 1) = 1 then
      if k_in (((10 : Int32) * v2) + v3) 60 then
      k_b1 (some (mg.2.2.2.1 (((10 : Int32) * v2) + v3).toNatClampNeg)) fun x_5 =>
      k_b1 (fX7_isBad x_5) fun x_7 =>
      if x_7 = true then
        fX7_layList_b121 N mg k53 k61 v1 v2 v3 x_5 ml.2.2.1 true (ml.1, (ml.2.1 + 1), ml.2.2.1, ml.2.2.2.1, ml.2.2.2.2.1, ml.2.2.2.2.2.1, ml.2.2.2.2.2.2)
      else
        fX7_layList_b121 N mg k53 k61 v1 v2 v3 x_5 ml.2.2.1 false (ml.1, (ml.2.1 + 1), ml.2.2.1, ml.2.2.2.1, ml.2.2.2.2.1, ml.2.2.2.2.2.1, ml.2.2.2.2.2.2) else none
    else
      fX7_layList_b174 N mg k53 v1 v2 ml else none
def fX7_layList_l61 (N : Nat) (mg : VMg) (k53 : Int32 → Int32 → VMl → Option (VMl)) : Nat → Int32 → Int32 → Int32 → VMl → Option (VMl)
  | 0, _, _, _, _ => none
  | n0 + 1, v1, v2, v3, ml => fX7_layList_b61 N mg k53 (fX7_layList_l61 N mg k53 n0) v1 v2 v3 ml
def fX7_layList_b53 (N : Nat) (mg : VMg) (k53 : Int32 → Int32 → VMl → Option (VMl)) (v1 : Int32) (v2 : Int32) (ml : VMl) : Option (VMl) :=
  if 6 ≤ v2 then
    fX7_layList_l182 N mg N 0 ml
  else
    fX7_layList_l61 N mg k53 N v1 v2 0 ml
def fX7_layList_l53 (N : Nat) (mg : VMg) : Nat → Int32 → Int32 → VMl → Option (VMl)
  | 0, _, _, _ => none
  | n0 + 1, v1, v2, ml => fX7_layList_b53 N mg (fX7_layList_l53 N mg n0) v1 v2 ml
def fX7_layList_b32 (N : Nat) (mg : VMg) (k32 : Int32 → Int32 → VMl → Option (VMl)) (v1 : Int32) (v2 : Int32) (ml : VMl) : Option (VMl) :=
  if 26 ≤ v2 then
    fX7_layList_l53 N mg N v1 0 ml
  else
    if k_in v2 26 then
    k32 v1 (v2 + 1) (upd ml.1 (v2).toNatClampNeg 0, ml.2.1, ml.2.2.1, ml.2.2.2.1, ml.2.2.2.2.1, ml.2.2.2.2.2.1, ml.2.2.2.2.2.2) else none
def fX7_layList_l32 (N : Nat) (mg : VMg) : Nat → Int32 → Int32 → VMl → Option (VMl)
  | 0, _, _, _ => none
  | n0 + 1, v1, v2, ml => fX7_layList_b32 N mg (fX7_layList_l32 N mg n0) v1 v2 ml
def fX7_layList (N : Nat) (mg : VMg) (p1 : Int32) (ml : VMl) : Option (VMl) :=
  fX7_layList_l32 N mg N p1 0 (ml.1, (0 : Int32), (0 : Int32), (0 : Int32), (0 : Int32), (0 : Int32), false)
def fX7_valid_b27 (N : Nat) (mg : VMg) (k4 : Int32 → Int32 → Option (Int32)) (v2 : Int32) (s0 : Int32) (s1 : Int32) : Option (Int32) :=
  k4 (s0 ||| s1) (v2 + 1)
def fX7_valid_b4 (N : Nat) (mg : VMg) (k4 : Int32 → Int32 → Option (Int32)) (v1 : Int32) (v2 : Int32) : Option (Int32) :=
  if 6 ≤ v2 then
    some v1
  else
    if k_in v2 6 then
    if (mg.2.1 v2.toNatClampNeg) = 0 then
      fX7_valid_b27 N mg k4 v2 v1 ((1 : Int32) <<< (v2 &&& 31))
    else
      fX7_valid_b27 N mg k4 v2 v1 0 else none
def fX7_valid_l4 (N : Nat) (mg : VMg) : Nat → Int32 → Int32 → Option (Int32)
  | 0, _, _ => none
  | n0 + 1, v1, v2 => fX7_valid_b4 N mg (fX7_valid_l4 N mg n0) v1 v2
def fX7_valid (N : Nat) (mg : VMg) : Option (Int32) :=
  fX7_valid_l4 N mg N 0 0
def fX7_good (ml : VMl) : Option (Int32) :=
  some ((ml.2.2.2.1 + ml.2.2.2.2.1) + ml.2.2.2.2.2.1)
def fX7_count_b35 (N : Nat) (mg : VMg) (v1 : Int32) (ml : VMl) : Option (Int32 × VMl) :=
  if v1 = 0 then
    some (ml.2.1, ml)
  else
    if v1 = 1 then
      some (ml.2.2.1, ml)
    else
      if v1 = 2 then
        some (ml.2.2.2.2.2.1, ml)
      else
        k_b1 (fX7_good ml) fun x_4 =>
        some (x_4, ml)
def fX7_count (N : Nat) (mg : VMg) (p1 : Int32) (ml : VMl) : Option (Int32 × VMl) :=
  k_b1 (fX7_in p1 0 3) fun x_1 =>
  if x_1 = true then
    k_b1 (fX7_valid N mg) fun x_4 =>
    k_b1 (fX7_layList N mg x_4 ml) fun ml_6 =>
    if p1 ≤ 1 then
      fX7_count_b35 N mg p1 ml_6
    else
      if ml_6.2.2.2.2.2.2 = true then
        some ((-3), ml_6)
      else
        fX7_count_b35 N mg p1 ml_6
  else
    some ((-2), ml)
def fX7_need (p1 : Int32) (mg : VMg) : Option (Int32 × VMg) :=
  k_b1 (fX7_in p1 0 60) fun x_1 =>
  if x_1 = true then
    some (mg.2.2.2.2.1, (mg.1, mg.2.1, mg.2.2.1, mg.2.2.2.1, p1, mg.2.2.2.2.2.1, mg.2.2.2.2.2.2))
  else
    some ((-2), mg)
def fX7_rule_b20 (N : Nat) (k20 : Int32 → VMp → VMg → Option (Int32 × VMp × VMg)) (v1 : Int32) (mp : VMp) (mg : VMg) : Option (Int32 × VMp × VMg) :=
  if mp.2 ≤ v1 then
    some (mg.2.2.2.2.2.1, (mp.1, (0 : Int32)), mg)
  else
    if k_in v1 16 then
    if k_in v1 11 then
    k20 (v1 + 1) mp (mg.1, mg.2.1, mg.2.2.1, mg.2.2.2.1, mg.2.2.2.2.1, mg.2.2.2.2.2.1, upd mg.2.2.2.2.2.2 (v1).toNatClampNeg (mp.1 v1.toNatClampNeg)) else none else none
def fX7_rule_l20 (N : Nat) : Nat → Int32 → VMp → VMg → Option (Int32 × VMp × VMg)
  | 0, _, _, _ => none
  | n0 + 1, v1, mp, mg => fX7_rule_b20 N (fX7_rule_l20 N n0) v1 mp mg
def fX7_rule (N : Nat) (mp : VMp) (mg : VMg) : Option (Int32 × VMp × VMg) :=
  k_b1 (fX7_ruleFault N mp) fun x_1 =>
  if x_1 < 0 then
    fX7_rule_l20 N N 0 mp (mg.1, mg.2.1, mg.2.2.1, mg.2.2.2.1, mg.2.2.2.2.1, mp.2, mg.2.2.2.2.2.2)
  else
    some ((-5), mp, mg)
def fX7_comesTo_b324 (N : Nat) (mg : VMg) (k11 : Int32 → Int32 → Int32 → Int32 → Int32 → Int32 → VMq → Option (Bool × VMq)) (v1 : Int32) (v2 : Int32) (v3 : Int32) (v4 : Int32) (v5 : Int32) (v6 : Int32) (mq : VMq) : Option (Bool × VMq) :=
  k11 v1 v2 v3 v4 v5 (v6 + (-1)) mq
def fX7_comesTo_b312 (N : Nat) (mg : VMg) (k11 : Int32 → Int32 → Int32 → Int32 → Int32 → Int32 → VMq → Option (Bool × VMq)) (v1 : Int32) (v2 : Int32) (v3 : Int32) (v4 : Int32) (v5 : Int32) (v6 : Int32) (s1 : Int32) (s2 : Int64) (mq : VMq) : Option (Bool × VMq) :=
  if k_in s1 12 then
  if k_in v5 12 then
  fX7_comesTo_b324 N mg k11 v1 v2 v3 v4 (v5 + 1) v6 (vp_updL mq.1 (s1).toNatClampNeg s2, vp_updL mq.2.1 (v5).toNatClampNeg (1 : Int64), mq.2.2.1, mq.2.2.2) else none else none
def fX7_comesTo_b209 (N : Nat) (mg : VMg) (k11 : Int32 → Int32 → Int32 → Int32 → Int32 → Int32 → VMq → Option (Bool × VMq)) (v1 : Int32) (v2 : Int32) (v3 : Int32) (v4 : Int32) (v5 : Int32) (v6 : Int32) (v16 : Int64) (s0 : Int64) (mq : VMq) : Option (Bool × VMq) :=
  k_b1 (fX7_common N v16 s0) fun x_1 =>
  if x_1 = 0 then none else
  if k_in (v5 - 1) 12 then
  if x_1 = 0 then none else
  if k_in (v5 - 1) 12 then
  fX7_comesTo_b324 N mg k11 v1 v2 v3 v4 v5 v6 (vp_updL mq.1 ((v5 - 1)).toNatClampNeg (v16 / x_1), vp_updL mq.2.1 ((v5 - 1)).toNatClampNeg (s0 / x_1), mq.2.2.1, mq.2.2.2) else none else none
def fX7_comesTo_b200 (N : Nat) (mg : VMg) (k11 : Int32 → Int32 → Int32 → Int32 → Int32 → Int32 → VMq → Option (Bool × VMq)) (v1 : Int32) (v2 : Int32) (v3 : Int32) (v4 : Int32) (v5 : Int32) (v6 : Int32) (v16 : Int64) (s0 : Int64) (s1 : Int64) (mq : VMq) : Option (Bool × VMq) :=
  fX7_comesTo_b209 N mg k11 v1 v2 v3 v4 v5 v6 v16 (s0 * s1) mq
def fX7_comesTo_b174 (N : Nat) (mg : VMg) (k11 : Int32 → Int32 → Int32 → Int32 → Int32 → Int32 → VMq → Option (Bool × VMq)) (v1 : Int32) (v2 : Int32) (v3 : Int32) (v4 : Int32) (v5 : Int32) (v6 : Int32) (v7 : Int32) (v10 : Int64) (v12 : Int64) (v14 : Int64) (s0 : Int64) (mq : VMq) : Option (Bool × VMq) :=
  if v7 = 47 then
    if (0 : Int64) ≤ v12 then
      fX7_comesTo_b200 N mg k11 v1 v2 v3 v4 v5 v6 s0 v10 v12 mq
    else
      fX7_comesTo_b200 N mg k11 v1 v2 v3 v4 v5 v6 s0 v10 (-v12) mq
  else
    fX7_comesTo_b209 N mg k11 v1 v2 v3 v4 v5 v6 s0 (v10 * v14) mq
def fX7_comesTo_b96 (N : Nat) (mg : VMg) (k11 : Int32 → Int32 → Int32 → Int32 → Int32 → Int32 → VMq → Option (Bool × VMq)) (v1 : Int32) (v2 : Int32) (v3 : Int32) (v4 : Int32) (v5 : Int32) (v6 : Int32) (v7 : Int32) (v8 : Int64) (v10 : Int64) (v12 : Int64) (v14 : Int64) (mq : VMq) : Option (Bool × VMq) :=
  if v7 = 43 then
    fX7_comesTo_b174 N mg k11 v1 v2 v3 v4 v5 v6 v7 v10 v12 v14 ((v8 * v14) + (v12 * v10)) mq
  else
    if v7 = 45 then
      fX7_comesTo_b174 N mg k11 v1 v2 v3 v4 v5 v6 v7 v10 v12 v14 ((v8 * v14) - (v12 * v10)) mq
    else
      if v7 = 42 then
        fX7_comesTo_b174 N mg k11 v1 v2 v3 v4 v5 v6 v7 v10 v12 v14 (v8 * v12) mq
      else
        if (0 : Int64) ≤ v12 then
          fX7_comesTo_b174 N mg k11 v1 v2 v3 v4 v5 v6 v7 v10 v12 v14 (v8 * v14) mq
        else
          fX7_comesTo_b174 N mg k11 v1 v2 v3 v4 v5 v6 v7 v10 v12 v14 ((-v8) * v14) mq
def fX7_comesTo_b11 (N : Nat) (mg : VMg) (k11 : Int32 → Int32 → Int32 → Int32 → Int32 → Int32 → VMq → Option (Bool × VMq)) (v1 : Int32) (v2 : Int32) (v3 : Int32) (v4 : Int32) (v5 : Int32) (v6 : Int32) (mq : VMq) : Option (Bool × VMq) :=
  if v6 < 0 then
    if k_in 0 12 then
    if k_in 0 12 then
    some (true, (mq.1, mq.2.1, (mq.1 ((0 : Int32)).toNatClampNeg), (mq.2.1 ((0 : Int32)).toNatClampNeg))) else none else none
  else
    if k_in v6 11 then
    k_b1 (fX7_isAct (mg.2.2.2.2.2.2 v6.toNatClampNeg)) fun x_5 =>
    if x_5 = true then
      if k_in (v5 - 1) 12 then
      if k_in (v5 - 1) 12 then
      if k_in (v5 - 2) 12 then
      if k_in (v5 - 2) 12 then
      if (mg.2.2.2.2.2.2 v6.toNatClampNeg) = 47 then
        if (mq.1 (v5 - 2).toNatClampNeg) = (0 : Int64) then
          some (false, mq)
        else
          fX7_comesTo_b96 N mg k11 v1 v2 v3 v4 (v5 + (-1)) v6 (mg.2.2.2.2.2.2 v6.toNatClampNeg) (mq.1 (v5 - 1).toNatClampNeg) (mq.2.1 (v5 - 1).toNatClampNeg) (mq.1 (v5 - 2).toNatClampNeg) (mq.2.1 (v5 - 2).toNatClampNeg) mq
      else
        fX7_comesTo_b96 N mg k11 v1 v2 v3 v4 (v5 + (-1)) v6 (mg.2.2.2.2.2.2 v6.toNatClampNeg) (mq.1 (v5 - 1).toNatClampNeg) (mq.2.1 (v5 - 1).toNatClampNeg) (mq.1 (v5 - 2).toNatClampNeg) (mq.2.1 (v5 - 2).toNatClampNeg) mq else none else none else none else none
    else
      if (mg.2.2.2.2.2.2 v6.toNatClampNeg) = 78 then
        fX7_comesTo_b312 N mg k11 v1 v2 v3 v4 v5 v6 v5 (v1).toInt64 mq
      else
        if (mg.2.2.2.2.2.2 v6.toNatClampNeg) = 107 then
          fX7_comesTo_b312 N mg k11 v1 v2 v3 v4 v5 v6 v5 (v2).toInt64 mq
        else
          if (mg.2.2.2.2.2.2 v6.toNatClampNeg) = 118 then
            fX7_comesTo_b312 N mg k11 v1 v2 v3 v4 v5 v6 v5 (v3).toInt64 mq
          else
            if (mg.2.2.2.2.2.2 v6.toNatClampNeg) = 100 then
              fX7_comesTo_b312 N mg k11 v1 v2 v3 v4 v5 v6 v5 (v4).toInt64 mq
            else
              fX7_comesTo_b312 N mg k11 v1 v2 v3 v4 v5 v6 v5 ((((mg.2.2.2.2.2.2 v6.toNatClampNeg) - 48)).toInt64) mq else none
def fX7_comesTo_l11 (N : Nat) (mg : VMg) : Nat → Int32 → Int32 → Int32 → Int32 → Int32 → Int32 → VMq → Option (Bool × VMq)
  | 0, _, _, _, _, _, _, _ => none
  | n0 + 1, v1, v2, v3, v4, v5, v6, mq => fX7_comesTo_b11 N mg (fX7_comesTo_l11 N mg n0) v1 v2 v3 v4 v5 v6 mq
def fX7_comesTo (N : Nat) (mg : VMg) (p1 : Int32) (p2 : Int32) (p3 : Int32) (p4 : Int32) (mq : VMq) : Option (Bool × VMq) :=
  fX7_comesTo_l11 N mg N p1 p2 p3 p4 0 (mg.2.2.2.2.2.1 - 1) mq
def fX7_saysYes (N : Nat) (mg : VMg) (p1 : Int32) (p2 : Int32) (p3 : Int32) (p4 : Int32) (mq : VMq) : Option (Bool × VMq) :=
  k_b2 (fX7_comesTo N mg p1 p2 p3 p4 mq) fun x_1 mq_2 =>
  if x_1 = true then
    if mq_2.2.2.1 < ((mg.2.2.2.2.1).toInt64 * mq_2.2.2.2) then
      some (false, mq_2)
    else
      some (true, mq_2)
  else
    some (false, mq_2)
def fX7_comes (N : Nat) (mg : VMg) (p1 : Int32) (p2 : Int32) (p3 : Int32) (p4 : Int32) (p5 : Int32) (mq : VMq) : Option (Int64 × VMq) :=
  k_b1 (fX7_in p1 0 60) fun x_1 =>
  if x_1 = true then
    k_b1 (fX7_in p2 0 60) fun x_4 =>
    if x_4 = true then
      k_b1 (fX7_in p3 0 60) fun x_7 =>
      if x_7 = true then
        k_b1 (fX7_in p4 0 60) fun x_10 =>
        if x_10 = true then
          k_b1 (fX7_isPart p5) fun x_13 =>
          if x_13 = true then
            k_b2 (fX7_comesTo N mg p1 p2 p3 p4 mq) fun x_16 mq_17 =>
            if x_16 = true then
              if p5 = 0 then
                some (mq_17.2.2.1, mq_17)
              else
                some (mq_17.2.2.2, mq_17)
            else
              some ((-1000000000000000005 : Int64), mq_17)
          else
            some ((-1000000000000000002 : Int64), mq)
        else
          some ((-1000000000000000002 : Int64), mq)
      else
        some ((-1000000000000000002 : Int64), mq)
    else
      some ((-1000000000000000002 : Int64), mq)
  else
    some ((-1000000000000000002 : Int64), mq)
def fX7_lotsOf_b6 (N : Nat) (mc : Nat → Int64) (k6 : Int32 → Int32 → Int32 → Int32 → Int64 → Int32 → Option (Int64)) (v1 : Int32) (v2 : Int32) (v3 : Int32) (v4 : Int32) (v5 : Int64) (v7 : Int32) : Option (Int64) :=
  if (v1 - v3) < v7 then
    some v5
  else
    if v4 < (((2 : Int32) * v3) + v7) then
      some v5
    else
      k_b1 (fX7_ways mc v1 v3) fun x_3 =>
      k_b1 (fX7_ways mc (v1 - v3) v7) fun x_5 =>
      k_b1 (fX7_ways mc v2 ((v4 - ((2 : Int32) * v3)) - v7)) fun x_7 =>
      k_b1 (some (v5 + (((x_3 * x_5) * ((1 : Int64) <<< ((v7).toInt64 &&& 63))) * x_7))) fun x_9 =>
      k6 v1 v2 v3 v4 x_9 (v7 + 1)
def fX7_lotsOf_l6 (N : Nat) (mc : Nat → Int64) : Nat → Int32 → Int32 → Int32 → Int32 → Int64 → Int32 → Option (Int64)
  | 0, _, _, _, _, _, _ => none
  | n0 + 1, v1, v2, v3, v4, v5, v7 => fX7_lotsOf_b6 N mc (fX7_lotsOf_l6 N mc n0) v1 v2 v3 v4 v5 v7
def fX7_lotsOf (N : Nat) (mc : Nat → Int64) (p1 : Int32) (p2 : Int32) (p3 : Int32) (p4 : Int32) : Option (Int64) :=
  fX7_lotsOf_l6 N mc N p1 p2 p3 p4 (0 : Int64) 0
def fX7_yesOf_b115 (N : Nat) (mg : VMg) (mc : Nat → Int64) (k15 : Int32 → Int32 → Int32 → Int32 → Int32 → Int64 → Int32 → VMq → Option (Int64 × VMq)) (k36 : Int32 → Int32 → Int32 → Int32 → Int32 → Int64 → Int32 → Int32 → VMq → Option (Int64 × VMq)) (v1 : Int32) (v2 : Int32) (v3 : Int32) (v4 : Int32) (v5 : Int32) (v8 : Int32) (v9 : Int32) (s0 : Int64) (s1 : Int64) (mq : VMq) : Option (Int64 × VMq) :=
  k36 v1 v2 v3 v4 v5 (s0 + s1) v8 (v9 + 1) mq
def fX7_yesOf_b114 (N : Nat) (mg : VMg) (mc : Nat → Int64) (k15 : Int32 → Int32 → Int32 → Int32 → Int32 → Int64 → Int32 → VMq → Option (Int64 × VMq)) (k36 : Int32 → Int32 → Int32 → Int32 → Int32 → Int64 → Int32 → Int32 → VMq → Option (Int64 × VMq)) (v1 : Int32) (v2 : Int32) (v3 : Int32) (v4 : Int32) (v5 : Int32) (v8 : Int32) (v9 : Int32) (s0 : Int64) (mq : VMq) : Option (Int64 × VMq) :=
  fX7_yesOf_b115 N mg mc k15 k36 v1 v2 v3 v4 v5 v8 v9 s0 (0 : Int64) mq
def fX7_yesOf_b72 (N : Nat) (mg : VMg) (mc : Nat → Int64) (k15 : Int32 → Int32 → Int32 → Int32 → Int32 → Int64 → Int32 → VMq → Option (Int64 × VMq)) (k36 : Int32 → Int32 → Int32 → Int32 → Int32 → Int64 → Int32 → Int32 → VMq → Option (Int64 × VMq)) (v1 : Int32) (v2 : Int32) (v3 : Int32) (v4 : Int32) (v5 : Int32) (v6 : Int64) (v8 : Int32) (v9 : Int32) (s0 : Int64) (mq : VMq) : Option (Int64 × VMq) :=
  if s0 ≤ (0 : Int64) then
    fX7_yesOf_b114 N mg mc k15 k36 v1 v2 v3 v4 v5 v8 v9 v6 mq
  else
    k_b2 (fX7_saysYes N mg v5 v4 v9 v8 mq) fun x_2 mq_3 =>
    if x_2 = true then
      k_b1 (fX7_ways mc v3 (v4 - v9)) fun x_6 =>
      fX7_yesOf_b115 N mg mc k15 k36 v1 v2 v3 v4 v5 v8 v9 v6 (s0 * x_6) mq_3
    else
      fX7_yesOf_b114 N mg mc k15 k36 v1 v2 v3 v4 v5 v8 v9 v6 mq_3
def fX7_yesOf_b36 (N : Nat) (mg : VMg) (mc : Nat → Int64) (k15 : Int32 → Int32 → Int32 → Int32 → Int32 → Int64 → Int32 → VMq → Option (Int64 × VMq)) (k36 : Int32 → Int32 → Int32 → Int32 → Int32 → Int64 → Int32 → Int32 → VMq → Option (Int64 × VMq)) (v1 : Int32) (v2 : Int32) (v3 : Int32) (v4 : Int32) (v5 : Int32) (v6 : Int64) (v8 : Int32) (v9 : Int32) (mq : VMq) : Option (Int64 × VMq) :=
  if v4 < v9 then
    k15 v1 v2 v3 v4 v5 v6 (v8 + 1) mq
  else
    k_b1 (fX7_ways mc v3 (v4 - v9)) fun x_2 =>
    if x_2 = (0 : Int64) then
      fX7_yesOf_b72 N mg mc k15 k36 v1 v2 v3 v4 v5 v6 v8 v9 (0 : Int64) mq
    else
      k_b1 (fX7_lotsOf N mc v1 v2 v8 v9) fun x_5 =>
      fX7_yesOf_b72 N mg mc k15 k36 v1 v2 v3 v4 v5 v6 v8 v9 x_5 mq
def fX7_yesOf_l36 (N : Nat) (mg : VMg) (mc : Nat → Int64) (k15 : Int32 → Int32 → Int32 → Int32 → Int32 → Int64 → Int32 → VMq → Option (Int64 × VMq)) : Nat → Int32 → Int32 → Int32 → Int32 → Int32 → Int64 → Int32 → Int32 → VMq → Option (Int64 × VMq)
  | 0, _, _, _, _, _, _, _, _, _ => none
  | n0 + 1, v1, v2, v3, v4, v5, v6, v8, v9, mq => fX7_yesOf_b36 N mg mc k15 (fX7_yesOf_l36 N mg mc k15 n0) v1 v2 v3 v4 v5 v6 v8 v9 mq
def fX7_yesOf_b15 (N : Nat) (mg : VMg) (mc : Nat → Int64) (k15 : Int32 → Int32 → Int32 → Int32 → Int32 → Int64 → Int32 → VMq → Option (Int64 × VMq)) (v1 : Int32) (v2 : Int32) (v3 : Int32) (v4 : Int32) (v5 : Int32) (v6 : Int64) (v8 : Int32) (mq : VMq) : Option (Int64 × VMq) :=
  if v1 < v8 then
    some (v6, mq)
  else
    if v4 < ((2 : Int32) * v8) then
      some (v6, mq)
    else
      fX7_yesOf_l36 N mg mc k15 N v1 v2 v3 v4 v5 v6 v8 ((2 : Int32) * v8) mq
def fX7_yesOf_l15 (N : Nat) (mg : VMg) (mc : Nat → Int64) : Nat → Int32 → Int32 → Int32 → Int32 → Int32 → Int64 → Int32 → VMq → Option (Int64 × VMq)
  | 0, _, _, _, _, _, _, _, _ => none
  | n0 + 1, v1, v2, v3, v4, v5, v6, v8, mq => fX7_yesOf_b15 N mg mc (fX7_yesOf_l15 N mg mc n0) v1 v2 v3 v4 v5 v6 v8 mq
def fX7_yesOf (N : Nat) (mg : VMg) (mc : Nat → Int64) (p1 : Int32) (p2 : Int32) (p3 : Int32) (p4 : Int32) (mq : VMq) : Option (Int64 × VMq) :=
  fX7_yesOf_l15 N mg mc N p1 p2 p3 p4 ((((2 : Int32) * p1) + p2) + p3) (0 : Int64) 0 mq
def fX7_yesNow (N : Nat) (mg : VMg) (mc : Nat → Int64) (ml : VMl) (p1 : Int32) (mq : VMq) : Option (Int64 × VMq) :=
  k_b2 (fX7_yesOf N mg mc ml.2.2.2.2.2.1 (ml.2.2.2.1 + ml.2.2.2.2.1) ml.2.2.1 p1 mq) fun x_1 mq_2 =>
  some (x_1, mq_2)
def fX7_barOfLot (N : Nat) (mg : VMg) (p1 : Int32) (p2 : Bool) (ml : VMl) : Option (Int32 × VMl) :=
  k_b1 (fX7_valid N mg) fun x_1 =>
  k_b1 (fX7_layList N mg x_1 ml) fun ml_3 =>
  k_b1 (fX7_in p1 1 ml_3.2.1) fun x_5 =>
  if x_5 = true then
    if p2 = true then
      if ml_3.2.2.2.2.2.2 = true then
        some ((-3), ml_3)
      else
        some (0, ml_3)
    else
      some ((-2), ml_3)
  else
    some ((-2), ml_3)
def fX7_yes (N : Nat) (mg : VMg) (mc : Nat → Int64) (p1 : Int32) (p2 : Int32) (ml : VMl) (mq : VMq) : Option (Int64 × VMl × VMq) :=
  k_b1 (fX7_isPart p2) fun x_1 =>
  k_b2 (fX7_barOfLot N mg p1 x_1 ml) fun x_3 ml_4 =>
  if 0 ≤ x_3 then
    k_b2 (fX7_yesNow N mg mc ml_4 p1 mq) fun x_7 mq_8 =>
    k_b1 (fX7_ways mc ml_4.2.1 p1) fun x_10 =>
    k_b1 (fX7_term N x_7 x_10 p2) fun x_12 =>
    some (x_12, ml_4, mq_8)
  else
    some (((-1000000000000000000 : Int64) + (x_3).toInt64), ml_4, mq)
def fX7_bits_b4 (N : Nat) (k4 : Int32 → Int32 → Int32 → Option (Int32)) (v0 : Int32) (v1 : Int32) (v2 : Int32) : Option (Int32) :=
  if 6 ≤ v2 then
    some v1
  else
    k4 v0 (v1 + ((v0 >>> (v2 &&& 31)) &&& 1)) (v2 + 1)
def fX7_bits_l4 (N : Nat) : Nat → Int32 → Int32 → Int32 → Option (Int32)
  | 0, _, _, _ => none
  | n0 + 1, v0, v1, v2 => fX7_bits_b4 N (fX7_bits_l4 N n0) v0 v1 v2
def fX7_bits (N : Nat) (p0 : Int32) : Option (Int32) :=
  fX7_bits_l4 N N p0 0 0
def fX7_bySheets_b176 (N : Nat) (mg : VMg) (k103 : Int32 → Int32 → Int32 → Int32 → Int64 → Int64 → Int32 → VMl → VMq → Option (Int64 × VMl × VMq)) (v1 : Int32) (v2 : Int32) (v3 : Int32) (v4 : Int32) (v5 : Int64) (v7 : Int64) (v9 : Int32) (ml : VMl) (mq : VMq) : Option (Int64 × VMl × VMq) :=
  k103 v1 v2 v3 v4 v5 v7 (v9 + 1) ml mq
def fX7_bySheets_b173 (N : Nat) (mg : VMg) (k103 : Int32 → Int32 → Int32 → Int32 → Int64 → Int64 → Int32 → VMl → VMq → Option (Int64 × VMl × VMq)) (v1 : Int32) (v2 : Int32) (v3 : Int32) (v4 : Int32) (v7 : Int64) (v9 : Int32) (s0 : Int64) (s1 : Int64) (ml : VMl) (mq : VMq) : Option (Int64 × VMl × VMq) :=
  fX7_bySheets_b176 N mg k103 v1 v2 v3 v4 (s0 + s1) v7 v9 ml mq
def fX7_bySheets_b103 (N : Nat) (mg : VMg) (k103 : Int32 → Int32 → Int32 → Int32 → Int64 → Int64 → Int32 → VMl → VMq → Option (Int64 × VMl × VMq)) (v1 : Int32) (v2 : Int32) (v3 : Int32) (v4 : Int32) (v5 : Int64) (v7 : Int64) (v9 : Int32) (ml : VMl) (mq : VMq) : Option (Int64 × VMl × VMq) :=
  if 64 ≤ v9 then
    k_b1 (fX7_term N v5 v7 v2) fun x_2 =>
    some (x_2, ml, mq)
  else
    if (v9 &&& (v3 ^^^ (-1))) = 0 then
      k_b1 (fX7_bits N v9) fun x_5 =>
      if x_5 = v1 then
        k_b1 (fX7_layList N mg v9 ml) fun ml_8 =>
        k_b2 (fX7_saysYes N mg v4 ml_8.2.1 (ml_8.2.1 - ml_8.2.2.1) ml_8.2.2.2.2.2.1 mq) fun x_10 mq_11 =>
        if x_10 = true then
          fX7_bySheets_b173 N mg k103 v1 v2 v3 v4 (v7 + (1 : Int64)) v9 v5 (1 : Int64) ml_8 mq_11
        else
          fX7_bySheets_b173 N mg k103 v1 v2 v3 v4 (v7 + (1 : Int64)) v9 v5 (0 : Int64) ml_8 mq_11
      else
        fX7_bySheets_b176 N mg k103 v1 v2 v3 v4 v5 v7 v9 ml mq
    else
      fX7_bySheets_b176 N mg k103 v1 v2 v3 v4 v5 v7 v9 ml mq
def fX7_bySheets_l103 (N : Nat) (mg : VMg) : Nat → Int32 → Int32 → Int32 → Int32 → Int64 → Int64 → Int32 → VMl → VMq → Option (Int64 × VMl × VMq)
  | 0, _, _, _, _, _, _, _, _, _ => none
  | n0 + 1, v1, v2, v3, v4, v5, v7, v9, ml, mq => fX7_bySheets_b103 N mg (fX7_bySheets_l103 N mg n0) v1 v2 v3 v4 v5 v7 v9 ml mq
def fX7_bySheets_b41 (N : Nat) (mg : VMg) (k5 : Int32 → Int32 → Int32 → Int32 → VMl → VMq → Option (Int64 × VMl × VMq)) (v1 : Int32) (v2 : Int32) (v4 : Int32) (s0 : Int32) (s1 : Int32) (ml : VMl) (mq : VMq) : Option (Int64 × VMl × VMq) :=
  k5 v1 v2 (s0 ||| s1) (v4 + 1) ml mq
def fX7_bySheets_b40 (N : Nat) (mg : VMg) (k5 : Int32 → Int32 → Int32 → Int32 → VMl → VMq → Option (Int64 × VMl × VMq)) (v1 : Int32) (v2 : Int32) (v4 : Int32) (s0 : Int32) (ml : VMl) (mq : VMq) : Option (Int64 × VMl × VMq) :=
  fX7_bySheets_b41 N mg k5 v1 v2 v4 s0 0 ml mq
def fX7_bySheets_b5 (N : Nat) (mg : VMg) (k5 : Int32 → Int32 → Int32 → Int32 → VMl → VMq → Option (Int64 × VMl × VMq)) (v1 : Int32) (v2 : Int32) (v3 : Int32) (v4 : Int32) (ml : VMl) (mq : VMq) : Option (Int64 × VMl × VMq) :=
  if 6 ≤ v4 then
    k_b1 (fX7_bits N v3) fun x_2 =>
    k_b1 (fX7_in v1 1 x_2) fun x_4 =>
    if x_4 = true then
      k_b1 (fX7_isPart v2) fun x_7 =>
      if x_7 = true then
        k_b1 (fX7_layList N mg v3 ml) fun ml_10 =>
        if ml_10.2.2.2.2.2.2 = true then
          some ((-1000000000000000003 : Int64), ml_10, mq)
        else
          fX7_bySheets_l103 N mg N v1 v2 v3 ml_10.2.1 (0 : Int64) (0 : Int64) 1 ml_10 mq
      else
        some ((-1000000000000000002 : Int64), ml, mq)
    else
      some ((-1000000000000000002 : Int64), ml, mq)
  else
    if k_in v4 6 then
    if (mg.2.1 v4.toNatClampNeg) = 0 then
      if k_in v4 6 then
      if (mg.2.2.1 v4.toNatClampNeg) ≤ 0 then
        fX7_bySheets_b40 N mg k5 v1 v2 v4 v3 ml mq
      else
        fX7_bySheets_b41 N mg k5 v1 v2 v4 v3 ((1 : Int32) <<< (v4 &&& 31)) ml mq else none
    else
      fX7_bySheets_b40 N mg k5 v1 v2 v4 v3 ml mq else none
def fX7_bySheets_l5 (N : Nat) (mg : VMg) : Nat → Int32 → Int32 → Int32 → Int32 → VMl → VMq → Option (Int64 × VMl × VMq)
  | 0, _, _, _, _, _, _ => none
  | n0 + 1, v1, v2, v3, v4, ml, mq => fX7_bySheets_b5 N mg (fX7_bySheets_l5 N mg n0) v1 v2 v3 v4 ml mq
def fX7_bySheets (N : Nat) (mg : VMg) (p1 : Int32) (p2 : Int32) (ml : VMl) (mq : VMq) : Option (Int64 × VMl × VMq) :=
  fX7_bySheets_l5 N mg N p1 p2 0 0 ml mq
def fX7_wrongNow (N : Nat) (mg : VMg) (mc : Nat → Int64) (ml : VMl) (p1 : Int32) (mq : VMq) : Option (Int64 × VMq) :=
  k_b2 (fX7_yesNow N mg mc ml p1 mq) fun x_1 mq_2 =>
  k_b1 (fX7_good ml) fun x_4 =>
  if x_4 < mg.2.2.2.2.1 then
    some (x_1, mq_2)
  else
    k_b1 (fX7_ways mc ml.2.1 p1) fun x_7 =>
    some ((x_7 - x_1), mq_2)
def fX7_wrong (N : Nat) (mg : VMg) (mc : Nat → Int64) (p1 : Int32) (p2 : Int32) (ml : VMl) (mq : VMq) : Option (Int64 × VMl × VMq) :=
  k_b1 (fX7_isPart p2) fun x_1 =>
  k_b2 (fX7_barOfLot N mg p1 x_1 ml) fun x_3 ml_4 =>
  if 0 ≤ x_3 then
    k_b2 (fX7_wrongNow N mg mc ml_4 p1 mq) fun x_7 mq_8 =>
    k_b1 (fX7_ways mc ml_4.2.1 p1) fun x_10 =>
    k_b1 (fX7_term N x_7 x_10 p2) fun x_12 =>
    some (x_12, ml_4, mq_8)
  else
    some (((-1000000000000000000 : Int64) + (x_3).toInt64), ml_4, mq)
def fX7_enough_b41 (N : Nat) (mg : VMg) (mc : Nat → Int64) (k41 : Int32 → Int32 → VMl → VMq → Option (Int32 × VMl × VMq)) (v1 : Int32) (v2 : Int32) (ml : VMl) (mq : VMq) : Option (Int32 × VMl × VMq) :=
  if ml.2.1 < v2 then
    some ((-6), ml, mq)
  else
    k_b1 (fX7_ways mc ml.2.1 v2) fun x_2 =>
    k_b2 (fX7_wrongNow N mg mc ml v2 mq) fun x_4 mq_5 =>
    if (((x_2 / (1000 : Int64)) * (v1).toInt64) + (((x_2 - x_2 / (1000 : Int64) * (1000 : Int64)) * (v1).toInt64) / (1000 : Int64))) < x_4 then
      k41 v1 (v2 + 1) ml mq_5
    else
      some (v2, ml, mq_5)
def fX7_enough_l41 (N : Nat) (mg : VMg) (mc : Nat → Int64) : Nat → Int32 → Int32 → VMl → VMq → Option (Int32 × VMl × VMq)
  | 0, _, _, _, _ => none
  | n0 + 1, v1, v2, ml, mq => fX7_enough_b41 N mg mc (fX7_enough_l41 N mg mc n0) v1 v2 ml mq
def fX7_enough (N : Nat) (mg : VMg) (mc : Nat → Int64) (p1 : Int32) (ml : VMl) (mq : VMq) : Option (Int32 × VMl × VMq) :=
  k_b1 (fX7_in p1 0 1000) fun x_1 =>
  if x_1 = true then
    k_b1 (fX7_valid N mg) fun x_4 =>
    k_b1 (fX7_layList N mg x_4 ml) fun ml_6 =>
    if ml_6.2.2.2.2.2.2 = true then
      some ((-3), ml_6, mq)
    else
      if ml_6.2.1 = 0 then
        some ((-3), ml_6, mq)
      else
        fX7_enough_l41 N mg mc N p1 1 ml_6 mq
  else
    some ((-2), ml, mq)
def fX7_worth (N : Nat) (mg : VMg) (p1 : Int32) (p2 : Int32) (p3 : Int32) (p4 : Int32) (ml : VMl) (mq : VMq) : Option (Int64 × VMl × VMq) :=
  k_b1 (fX7_valid N mg) fun x_1 =>
  k_b1 (fX7_layList N mg x_1 ml) fun ml_3 =>
  k_b1 (fX7_in p1 1 ml_3.2.1) fun x_5 =>
  if x_5 = true then
    k_b1 (fX7_in p2 0 60) fun x_8 =>
    if x_8 = true then
      k_b1 (fX7_in p3 0 60) fun x_11 =>
      if x_11 = true then
        k_b1 (fX7_isPart p4) fun x_14 =>
        if x_14 = true then
          k_b2 (fX7_comesTo N mg ml_3.2.1 p1 p2 p3 mq) fun x_17 mq_18 =>
          if x_17 = true then
            k_b2 (fX7_comesTo N mg ml_3.2.1 p1 p2 (p3 + 1) mq_18) fun x_21 mq_22 =>
            if x_21 = true then
              k_b1 (fX7_term N ((mq_18.2.2.1 * mq_22.2.2.2) - (mq_22.2.2.1 * mq_18.2.2.2)) (mq_18.2.2.2 * mq_22.2.2.2) p4) fun x_25 =>
              some (x_25, ml_3, mq_22)
            else
              some ((-1000000000000000005 : Int64), ml_3, mq_22)
          else
            some ((-1000000000000000005 : Int64), ml_3, mq_18)
        else
          some ((-1000000000000000002 : Int64), ml_3, mq)
      else
        some ((-1000000000000000002 : Int64), ml_3, mq)
    else
      some ((-1000000000000000002 : Int64), ml_3, mq)
  else
    some ((-1000000000000000002 : Int64), ml_3, mq)
def fX7_isGatherer (p0 : Int32) : Option (Bool) :=
  k_b1 (fX7_in p0 0 4) fun x_1 =>
  some x_1
def fX7_layHis_b96 (N : Nat) (mg : VMg) (k12 : Int32 → Int32 → VMh → Option (VMh)) (v1 : Int32) (v2 : Int32) (mh : VMh) : Option (VMh) :=
  k12 v1 (v2 + 1) mh
def fX7_layHis_b86 (N : Nat) (mg : VMg) (k12 : Int32 → Int32 → VMh → Option (VMh)) (k20 : Int32 → Int32 → Int32 → VMh → Option (VMh)) (v1 : Int32) (v2 : Int32) (v3 : Int32) (s1 : Int32) (s2 : Bool) (mh : VMh) : Option (VMh) :=
  k20 v1 v2 (v3 + 1) (mh.1, (s1 + (bI s2)))
def fX7_layHis_b20 (N : Nat) (mg : VMg) (k12 : Int32 → Int32 → VMh → Option (VMh)) (k20 : Int32 → Int32 → Int32 → VMh → Option (VMh)) (v1 : Int32) (v2 : Int32) (v3 : Int32) (mh : VMh) : Option (VMh) :=
  if k_in v2 6 then
  if (mg.2.2.1 v2.toNatClampNeg) ≤ v3 then
    fX7_layHis_b96 N mg k12 v1 v2 mh
  else
    if k_in v2 6 then
    if (mg.2.1 v2.toNatClampNeg) = 0 then
      if k_in v2 6 then
      if (mg.1 v2.toNatClampNeg) = v1 then
        if k_in (((10 : Int32) * v2) + v3) 60 then
        k_b1 (fX7_isBad (mg.2.2.2.1 (((10 : Int32) * v2) + v3).toNatClampNeg)) fun x_8 =>
        if x_8 = true then
          fX7_layHis_b86 N mg k12 k20 v1 v2 v3 mh.2 true ((mh.1 + 1), mh.2)
        else
          fX7_layHis_b86 N mg k12 k20 v1 v2 v3 mh.2 false ((mh.1 + 1), mh.2) else none
      else
        fX7_layHis_b96 N mg k12 v1 v2 mh else none
    else
      fX7_layHis_b96 N mg k12 v1 v2 mh else none else none
def fX7_layHis_l20 (N : Nat) (mg : VMg) (k12 : Int32 → Int32 → VMh → Option (VMh)) : Nat → Int32 → Int32 → Int32 → VMh → Option (VMh)
  | 0, _, _, _, _ => none
  | n0 + 1, v1, v2, v3, mh => fX7_layHis_b20 N mg k12 (fX7_layHis_l20 N mg k12 n0) v1 v2 v3 mh
def fX7_layHis_b12 (N : Nat) (mg : VMg) (k12 : Int32 → Int32 → VMh → Option (VMh)) (v1 : Int32) (v2 : Int32) (mh : VMh) : Option (VMh) :=
  if 6 ≤ v2 then
    some mh
  else
    fX7_layHis_l20 N mg k12 N v1 v2 0 mh
def fX7_layHis_l12 (N : Nat) (mg : VMg) : Nat → Int32 → Int32 → VMh → Option (VMh)
  | 0, _, _, _ => none
  | n0 + 1, v1, v2, mh => fX7_layHis_b12 N mg (fX7_layHis_l12 N mg n0) v1 v2 mh
def fX7_layHis (N : Nat) (mg : VMg) (p1 : Int32) (mh : VMh) : Option (VMh) :=
  fX7_layHis_l12 N mg N p1 0 ((0 : Int32), (0 : Int32))
def fX7_gatherer (N : Nat) (mg : VMg) (p1 : Int32) (p2 : Int32) (mh : VMh) : Option (Int32 × VMh) :=
  k_b1 (fX7_isGatherer p1) fun x_1 =>
  if x_1 = true then
    k_b1 (fX7_in p2 0 1) fun x_4 =>
    if x_4 = true then
      k_b1 (fX7_layHis N mg p1 mh) fun mh_7 =>
      if p2 = 0 then
        some (mh_7.1, mh_7)
      else
        some (mh_7.2, mh_7)
    else
      some ((-2), mh)
  else
    some ((-1), mh)
def fX7_laySeems_b21 (N : Nat) (mg : VMg) (mc : Nat → Int64) (k21 : Int64 → Int32 → VMl → VMh → VMs → Option (VMl × VMh × VMs)) (v2 : Int64) (v4 : Int32) (ml : VMl) (mh : VMh) (ms : VMs) : Option (VMl × VMh × VMs) :=
  if mh.1 < v4 then
    k_b1 (fX7_ways mc ml.2.1 mh.1) fun x_2 =>
    k_b1 (fX7_common N v2 x_2) fun x_4 =>
    if x_4 = 0 then none else
    k_b1 (fX7_ways mc ml.2.1 mh.1) fun x_7 =>
    if x_4 = 0 then none else
    some (ml, mh, ((v2 / x_4), (x_7 / x_4)))
  else
    k_b1 (fX7_ways mc ml.2.2.1 v4) fun x_10 =>
    k_b1 (fX7_ways mc (ml.2.1 - ml.2.2.1) (mh.1 - v4)) fun x_12 =>
    k21 (v2 + (x_10 * x_12)) (v4 + 1) ml mh ms
def fX7_laySeems_l21 (N : Nat) (mg : VMg) (mc : Nat → Int64) : Nat → Int64 → Int32 → VMl → VMh → VMs → Option (VMl × VMh × VMs)
  | 0, _, _, _, _, _ => none
  | n0 + 1, v2, v4, ml, mh, ms => fX7_laySeems_b21 N mg mc (fX7_laySeems_l21 N mg mc n0) v2 v4 ml mh ms
def fX7_laySeems (N : Nat) (mg : VMg) (mc : Nat → Int64) (p1 : Int32) (ml : VMl) (mh : VMh) (ms : VMs) : Option (VMl × VMh × VMs) :=
  k_b1 (fX7_valid N mg) fun x_1 =>
  k_b1 (fX7_layList N mg x_1 ml) fun ml_3 =>
  k_b1 (fX7_layHis N mg p1 mh) fun mh_5 =>
  fX7_laySeems_l21 N mg mc N (0 : Int64) mh_5.2 ml_3 mh_5 ms
def fX7_seems (N : Nat) (mg : VMg) (mc : Nat → Int64) (p1 : Int32) (p2 : Int32) (ml : VMl) (mh : VMh) (ms : VMs) : Option (Int64 × VMl × VMh × VMs) :=
  k_b1 (fX7_isGatherer p1) fun x_1 =>
  if x_1 = true then
    k_b1 (fX7_isPart p2) fun x_4 =>
    if x_4 = true then
      k_b3 (fX7_laySeems N mg mc p1 ml mh ms) fun ml_7 mh_8 ms_9 =>
      if p2 = 0 then
        some (ms_9.1, ml_7, mh_8, ms_9)
      else
        some (ms_9.2, ml_7, mh_8, ms_9)
    else
      some ((-1000000000000000002 : Int64), ml, mh, ms)
  else
    some ((-1000000000000000001 : Int64), ml, mh, ms)
def fX7_isLess_b111 (N : Nat) (v16 : Bool) (s0 : Bool) : Option (Bool) :=
  if (bI s0) = (bI v16) then
    some true
  else
    some false
def fX7_isLess_b91 (N : Nat) (v8 : Int64) (v12 : Int64) (v16 : Bool) : Option (Bool) :=
  if v8 = v12 then
    some false
  else
    if v8 = (0 : Int64) then
      fX7_isLess_b111 N v16 true
    else
      fX7_isLess_b111 N v16 false
def fX7_isLess_b156 (N : Nat) (k17 : Int64 → Int64 → Int64 → Int64 → Bool → Option (Bool)) (v8 : Int64) (v10 : Int64) (v12 : Int64) (v14 : Int64) (s0 : Bool) : Option (Bool) :=
  k17 v8 v10 v12 v14 s0
def fX7_isLess_b52 (N : Nat) (v16 : Bool) (s0 : Bool) : Option (Bool) :=
  if (bI s0) = (bI v16) then
    some true
  else
    some false
def fX7_isLess_b17 (N : Nat) (k17 : Int64 → Int64 → Int64 → Int64 → Bool → Option (Bool)) (v8 : Int64) (v10 : Int64) (v12 : Int64) (v14 : Int64) (v16 : Bool) : Option (Bool) :=
  if v10 = 0 then none else
  if v14 = 0 then none else
  if (v8 / v10) = (v12 / v14) then
    if v10 = 0 then none else
    if v14 = 0 then none else
    if (v8 - v8 / v10 * v10) = (0 : Int64) then
      fX7_isLess_b91 N (v8 - v8 / v10 * v10) (v12 - v12 / v14 * v14) v16
    else
      if (v12 - v12 / v14 * v14) = (0 : Int64) then
        fX7_isLess_b91 N (v8 - v8 / v10 * v10) (v12 - v12 / v14 * v14) v16
      else
        if v16 = true then
          fX7_isLess_b156 N k17 v10 (v8 - v8 / v10 * v10) v14 (v12 - v12 / v14 * v14) false
        else
          fX7_isLess_b156 N k17 v10 (v8 - v8 / v10 * v10) v14 (v12 - v12 / v14 * v14) true
  else
    if (v12 / v14) ≤ (v8 / v10) then
      fX7_isLess_b52 N v16 false
    else
      fX7_isLess_b52 N v16 true
def fX7_isLess_l17 (N : Nat) : Nat → Int64 → Int64 → Int64 → Int64 → Bool → Option (Bool)
  | 0, _, _, _, _, _ => none
  | n0 + 1, v8, v10, v12, v14, v16 => fX7_isLess_b17 N (fX7_isLess_l17 N n0) v8 v10 v12 v14 v16
def fX7_isLess (N : Nat) (p0 : Int64) (p2 : Int64) (p4 : Int64) (p6 : Int64) : Option (Bool) :=
  fX7_isLess_l17 N N p0 p2 p4 p6 true
def fX7_suspect_b65 (N : Nat) (mg : VMg) (mc : Nat → Int64) (k11 : Int32 → Int64 → Int64 → Int32 → VMl → VMh → VMs → Option (Int32 × VMl × VMh × VMs)) (v1 : Int32) (v2 : Int64) (v4 : Int64) (v6 : Int32) (ml : VMl) (mh : VMh) (ms : VMs) : Option (Int32 × VMl × VMh × VMs) :=
  k11 v1 v2 v4 (v6 + 1) ml mh ms
def fX7_suspect_b51 (N : Nat) (mg : VMg) (mc : Nat → Int64) (k11 : Int32 → Int64 → Int64 → Int32 → VMl → VMh → VMs → Option (Int32 × VMl × VMh × VMs)) (v6 : Int32) (ml : VMl) (mh : VMh) (ms : VMs) : Option (Int32 × VMl × VMh × VMs) :=
  fX7_suspect_b65 N mg mc k11 v6 ms.1 ms.2 v6 ml mh ms
def fX7_suspect_b11 (N : Nat) (mg : VMg) (mc : Nat → Int64) (k11 : Int32 → Int64 → Int64 → Int32 → VMl → VMh → VMs → Option (Int32 × VMl × VMh × VMs)) (v1 : Int32) (v2 : Int64) (v4 : Int64) (v6 : Int32) (ml : VMl) (mh : VMh) (ms : VMs) : Option (Int32 × VMl × VMh × VMs) :=
  if 5 ≤ v6 then
    some (v1, ml, mh, ms)
  else
    k_b3 (fX7_laySeems N mg mc v6 ml mh ms) fun ml_2 mh_3 ms_4 =>
    if mh_3.1 ≤ 0 then
      fX7_suspect_b65 N mg mc k11 v1 v2 v4 v6 ml_2 mh_3 ms_4
    else
      if v1 < 0 then
        fX7_suspect_b51 N mg mc k11 v6 ml_2 mh_3 ms_4
      else
        k_b1 (fX7_isLess N ms_4.1 ms_4.2 v2 v4) fun x_8 =>
        if x_8 = true then
          fX7_suspect_b51 N mg mc k11 v6 ml_2 mh_3 ms_4
        else
          fX7_suspect_b65 N mg mc k11 v1 v2 v4 v6 ml_2 mh_3 ms_4
def fX7_suspect_l11 (N : Nat) (mg : VMg) (mc : Nat → Int64) : Nat → Int32 → Int64 → Int64 → Int32 → VMl → VMh → VMs → Option (Int32 × VMl × VMh × VMs)
  | 0, _, _, _, _, _, _, _ => none
  | n0 + 1, v1, v2, v4, v6, ml, mh, ms => fX7_suspect_b11 N mg mc (fX7_suspect_l11 N mg mc n0) v1 v2 v4 v6 ml mh ms
def fX7_suspect (N : Nat) (mg : VMg) (mc : Nat → Int64) (ml : VMl) (mh : VMh) (ms : VMs) : Option (Int32 × VMl × VMh × VMs) :=
  fX7_suspect_l11 N mg mc N (-6) (0 : Int64) (1 : Int64) 0 ml mh ms
def fX7_shared_b52 (N : Nat) (mg : VMg) (mc : Nat → Int64) (k27 : Int32 → Int32 → Int32 → Int32 → VMl → VMh → VMs → Option (Int64 × VMl × VMh × VMs)) (v1 : Int32) (v2 : Int32) (v4 : Int32) (s0 : Int32) (s1 : Bool) (ml : VMl) (mh : VMh) (ms : VMs) : Option (Int64 × VMl × VMh × VMs) :=
  k27 v1 v2 (s0 + (bI s1)) (v4 + 1) ml mh ms
def fX7_shared_b27 (N : Nat) (mg : VMg) (mc : Nat → Int64) (k27 : Int32 → Int32 → Int32 → Int32 → VMl → VMh → VMs → Option (Int64 × VMl × VMh × VMs)) (v1 : Int32) (v2 : Int32) (v3 : Int32) (v4 : Int32) (ml : VMl) (mh : VMh) (ms : VMs) : Option (Int64 × VMl × VMh × VMs) :=
  if 5 ≤ v4 then
    k_b3 (fX7_laySeems N mg mc v1 ml mh ms) fun ml_2 mh_3 ms_4 =>
    if (ms_4.1 * (v3).toInt64) < ms_4.2 then
      k_b1 (fX7_term N (ms_4.1 * (v3).toInt64) ms_4.2 v2) fun x_7 =>
      some (x_7, ml_2, mh_3, ms_4)
    else
      some ((1 : Int64), ml_2, mh_3, ms_4)
  else
    k_b1 (fX7_layHis N mg v4 mh) fun mh_9 =>
    if mh_9.1 ≤ 0 then
      fX7_shared_b52 N mg mc k27 v1 v2 v4 v3 false ml mh_9 ms
    else
      fX7_shared_b52 N mg mc k27 v1 v2 v4 v3 true ml mh_9 ms
def fX7_shared_l27 (N : Nat) (mg : VMg) (mc : Nat → Int64) : Nat → Int32 → Int32 → Int32 → Int32 → VMl → VMh → VMs → Option (Int64 × VMl × VMh × VMs)
  | 0, _, _, _, _, _, _, _ => none
  | n0 + 1, v1, v2, v3, v4, ml, mh, ms => fX7_shared_b27 N mg mc (fX7_shared_l27 N mg mc n0) v1 v2 v3 v4 ml mh ms
def fX7_shared (N : Nat) (mg : VMg) (mc : Nat → Int64) (p1 : Int32) (p2 : Int32) (ml : VMl) (mh : VMh) (ms : VMs) : Option (Int64 × VMl × VMh × VMs) :=
  k_b1 (fX7_isGatherer p1) fun x_1 =>
  if x_1 = true then
    k_b1 (fX7_isPart p2) fun x_4 =>
    if x_4 = true then
      fX7_shared_l27 N mg mc N p1 p2 0 0 ml mh ms
    else
      some ((-1000000000000000002 : Int64), ml, mh, ms)
  else
    some ((-1000000000000000001 : Int64), ml, mh, ms)
def fX7_fine_b38 (N : Nat) (k38 : Int32 → Int32 → Int32 → Int32 → Option (Int32)) (v1 : Int32) (v2 : Int32) (v3 : Int32) (v4 : Int32) : Option (Int32) :=
  if 10000 ≤ v4 then
    some (-6)
  else
    if (v2 * (v4 + v1)) < ((10 : Int32) * v3) then
      k38 v1 v2 v3 (v4 + 1)
    else
      some v4
def fX7_fine_l38 (N : Nat) : Nat → Int32 → Int32 → Int32 → Int32 → Option (Int32)
  | 0, _, _, _, _ => none
  | n0 + 1, v1, v2, v3, v4 => fX7_fine_b38 N (fX7_fine_l38 N n0) v1 v2 v3 v4
def fX7_fine (N : Nat) (p1 : Int32) (p2 : Int32) (p3 : Int32) : Option (Int32) :=
  k_b1 (fX7_in p1 0 999) fun x_1 =>
  if x_1 = true then
    k_b1 (fX7_in p2 0 10) fun x_4 =>
    if x_4 = true then
      k_b1 (fX7_in p3 0 999) fun x_7 =>
      if x_7 = true then
        fX7_fine_l38 N N p1 p2 p3 0
      else
        some (-2)
    else
      some (-2)
  else
    some (-2)
def fX7_word (N : Nat) (mg : VMg) (p1 : Int32) (p2 : Int32) (p3 : Int32) (ml : VMl) : Option (Int64 × VMl) :=
  k_b1 (fX7_in p1 0 10) fun x_1 =>
  if x_1 = true then
    k_b1 (fX7_in p2 0 10) fun x_4 =>
    if x_4 = true then
      k_b1 (fX7_isPart p3) fun x_7 =>
      if x_7 = true then
        k_b1 (fX7_valid N mg) fun x_10 =>
        k_b1 (fX7_layList N mg x_10 ml) fun ml_12 =>
        if ml_12.2.1 = 0 then
          some ((-1000000000000000005 : Int64), ml_12)
        else
          k_b1 (some ((((ml_12.2.1 - ml_12.2.2.1) * p1)).toInt64)) fun x_15 =>
          k_b1 (some (x_15 + (((ml_12.2.2.1 * p2)).toInt64))) fun x_17 =>
          if x_17 = (0 : Int64) then
            some ((p3).toInt64, ml_12)
          else
            k_b1 (fX7_term N x_15 x_17 p3) fun x_20 =>
            some (x_20, ml_12)
      else
        some ((-1000000000000000002 : Int64), ml)
    else
      some ((-1000000000000000002 : Int64), ml)
  else
    some ((-1000000000000000002 : Int64), ml)
def fX7_lossOf (N : Nat) (mg : VMg) (p1 : Int32) (ml : VMl) : Option (Int32 × VMl) :=
  k_b1 (fX7_valid N mg) fun x_1 =>
  k_b1 (fX7_layList N mg x_1 ml) fun ml_3 =>
  k_b1 (fX7_good ml_3) fun x_5 =>
  k_b1 (fX7_valid N mg) fun x_7 =>
  k_b1 (fX7_layList N mg (x_7 &&& (((1 : Int32) <<< (p1 &&& 31)) ^^^ (-1))) ml_3) fun ml_9 =>
  k_b1 (fX7_good ml_9) fun x_11 =>
  some ((x_5 - x_11), ml_9)
def fX7_isOverfull (N : Nat) (mg : VMg) (ml : VMl) : Option (Bool × VMl) :=
  k_b1 (fX7_valid N mg) fun x_1 =>
  k_b1 (fX7_layList N mg x_1 ml) fun ml_3 =>
  some (ml_3.2.2.2.2.2.2, ml_3)
def fX7_strike (N : Nat) (mg : VMg) (p1 : Int32) (ml : VMl) : Option (Int32 × VMl) :=
  k_b1 (fX7_isSheet p1) fun x_1 =>
  if x_1 = true then
    k_b2 (fX7_isOverfull N mg ml) fun x_4 ml_5 =>
    if x_4 = true then
      some ((-3), ml_5)
    else
      if k_in p1 6 then
      if (mg.2.1 p1.toNatClampNeg) = 1 then
        some ((-3), ml_5)
      else
        k_b2 (fX7_lossOf N mg p1 ml_5) fun x_10 ml_11 =>
        some (x_10, ml_11) else none
  else
    some ((-1), ml)
def fX7_worst_b79 (N : Nat) (mg : VMg) (k17 : Int32 → Int32 → Int32 → VMl → Option (Int32 × VMl)) (v1 : Int32) (v2 : Int32) (v3 : Int32) (ml : VMl) : Option (Int32 × VMl) :=
  k17 v1 v2 (v3 + 1) ml
def fX7_worst_b78 (N : Nat) (mg : VMg) (k17 : Int32 → Int32 → Int32 → VMl → Option (Int32 × VMl)) (v1 : Int32) (v3 : Int32) (s0 : Int32) (ml : VMl) : Option (Int32 × VMl) :=
  fX7_worst_b79 N mg k17 v1 s0 v3 ml
def fX7_worst_b66 (N : Nat) (mg : VMg) (k17 : Int32 → Int32 → Int32 → VMl → Option (Int32 × VMl)) (v2 : Int32) (v3 : Int32) (v4 : Int32) (v5 : Bool) (s0 : Int32) (ml : VMl) : Option (Int32 × VMl) :=
  if v5 = true then
    fX7_worst_b78 N mg k17 s0 v3 v4 ml
  else
    fX7_worst_b78 N mg k17 s0 v3 v2 ml
def fX7_worst_b54 (N : Nat) (mg : VMg) (k17 : Int32 → Int32 → Int32 → VMl → Option (Int32 × VMl)) (v1 : Int32) (v2 : Int32) (v3 : Int32) (v4 : Int32) (s0 : Bool) (ml : VMl) : Option (Int32 × VMl) :=
  if s0 = true then
    fX7_worst_b66 N mg k17 v2 v3 v4 s0 v3 ml
  else
    fX7_worst_b66 N mg k17 v2 v3 v4 s0 v1 ml
def fX7_worst_b49 (N : Nat) (mg : VMg) (k17 : Int32 → Int32 → Int32 → VMl → Option (Int32 × VMl)) (v1 : Int32) (v2 : Int32) (v3 : Int32) (v4 : Int32) (ml : VMl) : Option (Int32 × VMl) :=
  fX7_worst_b54 N mg k17 v1 v2 v3 v4 true ml
def fX7_worst_b17 (N : Nat) (mg : VMg) (k17 : Int32 → Int32 → Int32 → VMl → Option (Int32 × VMl)) (v1 : Int32) (v2 : Int32) (v3 : Int32) (ml : VMl) : Option (Int32 × VMl) :=
  if 6 ≤ v3 then
    some (v1, ml)
  else
    if k_in v3 6 then
    if (mg.2.1 v3.toNatClampNeg) = 0 then
      k_b2 (fX7_lossOf N mg v3 ml) fun x_4 ml_5 =>
      if v1 < 0 then
        fX7_worst_b49 N mg k17 v1 v2 v3 x_4 ml_5
      else
        if x_4 ≤ v2 then
          fX7_worst_b54 N mg k17 v1 v2 v3 x_4 false ml_5
        else
          fX7_worst_b49 N mg k17 v1 v2 v3 x_4 ml_5
    else
      fX7_worst_b79 N mg k17 v1 v2 v3 ml else none
def fX7_worst_l17 (N : Nat) (mg : VMg) : Nat → Int32 → Int32 → Int32 → VMl → Option (Int32 × VMl)
  | 0, _, _, _, _ => none
  | n0 + 1, v1, v2, v3, ml => fX7_worst_b17 N mg (fX7_worst_l17 N mg n0) v1 v2 v3 ml
def fX7_worst (N : Nat) (mg : VMg) (ml : VMl) : Option (Int32 × VMl) :=
  k_b2 (fX7_isOverfull N mg ml) fun x_1 ml_2 =>
  if x_1 = true then
    some ((-3), ml_2)
  else
    fX7_worst_l17 N mg N (-6) 0 0 ml_2
def fX7_against_b124 (N : Nat) (mg : VMg) (mc : Nat → Int64) (k45 : Int32 → Int32 → Int32 → Int32 → VMl → VMq → Option (Int32 × VMl × VMq)) (v1 : Int32) (v2 : Int32) (v4 : Int32) (v5 : Int32) (s0 : Int64) (ml : VMl) (mq : VMq) : Option (Int32 × VMl × VMq) :=
  k_b1 (fX7_ways mc (ml.2.1 + v5) v2) fun x_1 =>
  if x_1 ≤ ((2 : Int64) * s0) then
    k45 v1 v2 v4 (v5 + 1) ml mq
  else
    some (v5, ml, mq)
def fX7_against_b45 (N : Nat) (mg : VMg) (mc : Nat → Int64) (k45 : Int32 → Int32 → Int32 → Int32 → VMl → VMq → Option (Int32 × VMl × VMq)) (v1 : Int32) (v2 : Int32) (v4 : Int32) (v5 : Int32) (ml : VMl) (mq : VMq) : Option (Int32 × VMl × VMq) :=
  if v4 < v5 then
    some ((-6), ml, mq)
  else
    if 60 < (ml.2.1 + v5) then
      some ((-6), ml, mq)
    else
      if v1 = 0 then
        k_b2 (fX7_yesOf N mg mc ml.2.2.2.2.2.1 (ml.2.2.2.1 + ml.2.2.2.2.1) (ml.2.2.1 + v5) v2 mq) fun x_7 mq_8 =>
        fX7_against_b124 N mg mc k45 v1 v2 v4 v5 x_7 ml mq_8
      else
        k_b2 (fX7_yesOf N mg mc (ml.2.2.2.2.2.1 + v5) ((ml.2.2.2.1 + ml.2.2.2.2.1) - v5) ml.2.2.1 v2 mq) fun x_4 mq_5 =>
        fX7_against_b124 N mg mc k45 v1 v2 v4 v5 x_4 ml mq_5
def fX7_against_l45 (N : Nat) (mg : VMg) (mc : Nat → Int64) : Nat → Int32 → Int32 → Int32 → Int32 → VMl → VMq → Option (Int32 × VMl × VMq)
  | 0, _, _, _, _, _, _ => none
  | n0 + 1, v1, v2, v4, v5, ml, mq => fX7_against_b45 N mg mc (fX7_against_l45 N mg mc n0) v1 v2 v4 v5 ml mq
def fX7_against_b40 (N : Nat) (mg : VMg) (mc : Nat → Int64) (v1 : Int32) (v2 : Int32) (s0 : Int32) (ml : VMl) (mq : VMq) : Option (Int32 × VMl × VMq) :=
  fX7_against_l45 N mg mc N v1 v2 s0 0 ml mq
def fX7_against_b31 (N : Nat) (mg : VMg) (mc : Nat → Int64) (v1 : Int32) (v2 : Int32) (ml : VMl) (mq : VMq) : Option (Int32 × VMl × VMq) :=
  fX7_against_b40 N mg mc v1 v2 30 ml mq
def fX7_against (N : Nat) (mg : VMg) (mc : Nat → Int64) (p1 : Int32) (p2 : Int32) (ml : VMl) (mq : VMq) : Option (Int32 × VMl × VMq) :=
  k_b1 (fX7_in p1 0 1) fun x_1 =>
  k_b2 (fX7_barOfLot N mg p2 x_1 ml) fun x_3 ml_4 =>
  if 0 ≤ x_3 then
    if p1 = 0 then
      fX7_against_b31 N mg mc p1 p2 ml_4 mq
    else
      if ml_4.2.2.2.1 ≤ 30 then
        fX7_against_b40 N mg mc p1 p2 ml_4.2.2.2.1 ml_4 mq
      else
        fX7_against_b31 N mg mc p1 p2 ml_4 mq
  else
    some (x_3, ml_4, mq)
def fX7_heap_b290 (N : Nat) (mg : VMg) (k155 : Int32 → Int32 → Int32 → Int32 → Int32 → Int32 → Int32 → Int32 → VMl → VMq → (Nat → Int32) → Option (Int32 × VMl × VMq × (Nat → Int32))) (v2 : Int32) (v3 : Int32) (v5 : Int32) (v6 : Int32) (v7 : Int32) (v8 : Int32) (v9 : Int32) (v10 : Int32) (ml : VMl) (mq : VMq) (mr : Nat → Int32) : Option (Int32 × VMl × VMq × (Nat → Int32)) :=
  k155 v2 v3 v5 v6 v7 v8 v9 (v10 + 1) ml mq mr
def fX7_heap_b287 (N : Nat) (mg : VMg) (k155 : Int32 → Int32 → Int32 → Int32 → Int32 → Int32 → Int32 → Int32 → VMl → VMq → (Nat → Int32) → Option (Int32 × VMl × VMq × (Nat → Int32))) (v2 : Int32) (v3 : Int32) (v5 : Int32) (v6 : Int32) (v7 : Int32) (v8 : Int32) (v10 : Int32) (s0 : Int32) (s1 : Bool) (ml : VMl) (mq : VMq) (mr : Nat → Int32) : Option (Int32 × VMl × VMq × (Nat → Int32)) :=
  fX7_heap_b290 N mg k155 v2 v3 v5 v6 v7 v8 (s0 + (bI s1)) v10 ml mq mr
def fX7_heap_b241 (N : Nat) (mg : VMg) (k155 : Int32 → Int32 → Int32 → Int32 → Int32 → Int32 → Int32 → Int32 → VMl → VMq → (Nat → Int32) → Option (Int32 × VMl × VMq × (Nat → Int32))) (v2 : Int32) (v3 : Int32) (v5 : Int32) (v6 : Int32) (v7 : Int32) (v9 : Int32) (v10 : Int32) (v12 : Int32) (s0 : Int32) (s1 : Bool) (ml : VMl) (mq : VMq) (mr : Nat → Int32) : Option (Int32 × VMl × VMq × (Nat → Int32)) :=
  k_b1 (fX7_isPerson v12) fun x_1 =>
  if x_1 = true then
    if k_in (v12 - 65) 26 then
    if k_in (v12 - 65) 26 then
    if k_in (v12 - 65) 26 then
    if ((upd ml.1 ((v12 - 65)).toNatClampNeg ((ml.1 (v12 - 65).toNatClampNeg) + 1)) (v12 - 65).toNatClampNeg) = 2 then
      fX7_heap_b287 N mg k155 v2 v3 v5 v6 v7 (s0 + (bI s1)) v10 v9 true (upd ml.1 ((v12 - 65)).toNatClampNeg ((ml.1 (v12 - 65).toNatClampNeg) + 1), ml.2.1, ml.2.2.1, ml.2.2.2.1, ml.2.2.2.2.1, ml.2.2.2.2.2.1, ml.2.2.2.2.2.2) mq mr
    else
      fX7_heap_b287 N mg k155 v2 v3 v5 v6 v7 (s0 + (bI s1)) v10 v9 false (upd ml.1 ((v12 - 65)).toNatClampNeg ((ml.1 (v12 - 65).toNatClampNeg) + 1), ml.2.1, ml.2.2.1, ml.2.2.2.1, ml.2.2.2.2.1, ml.2.2.2.2.2.1, ml.2.2.2.2.2.2) mq mr else none else none else none
  else
    fX7_heap_b290 N mg k155 v2 v3 v5 v6 v7 (s0 + (bI s1)) v9 v10 ml mq mr
def fX7_heap_b197 (N : Nat) (mg : VMg) (k155 : Int32 → Int32 → Int32 → Int32 → Int32 → Int32 → Int32 → Int32 → VMl → VMq → (Nat → Int32) → Option (Int32 × VMl × VMq × (Nat → Int32))) (k197 : Int32 → Int32 → Int32 → Int32 → Int32 → Int32 → Int32 → Int32 → Int32 → Int32 → VMl → VMq → (Nat → Int32) → Option (Int32 × VMl × VMq × (Nat → Int32))) (v2 : Int32) (v3 : Int32) (v5 : Int32) (v6 : Int32) (v7 : Int32) (v8 : Int32) (v9 : Int32) (v10 : Int32) (v12 : Int32) (v13 : Int32) (ml : VMl) (mq : VMq) (mr : Nat → Int32) : Option (Int32 × VMl × VMq × (Nat → Int32)) :=
  if v6 ≤ v13 then
    k_b1 (fX7_isBad v12) fun x_2 =>
    if x_2 = true then
      fX7_heap_b241 N mg k155 v2 v3 v5 v6 v7 v9 v10 v12 v8 false ml mq mr
    else
      fX7_heap_b241 N mg k155 v2 v3 v5 v6 v7 v9 v10 v12 v8 true ml mq mr
  else
    if k_in (v13 + 1) 60 then
    if k_in v13 60 then
    k197 v2 v3 v5 v6 v7 v8 v9 v10 v12 (v13 + 1) ml mq (upd mr (v13).toNatClampNeg (mr (v13 + 1).toNatClampNeg)) else none else none
def fX7_heap_l197 (N : Nat) (mg : VMg) (k155 : Int32 → Int32 → Int32 → Int32 → Int32 → Int32 → Int32 → Int32 → VMl → VMq → (Nat → Int32) → Option (Int32 × VMl × VMq × (Nat → Int32))) : Nat → Int32 → Int32 → Int32 → Int32 → Int32 → Int32 → Int32 → Int32 → Int32 → Int32 → VMl → VMq → (Nat → Int32) → Option (Int32 × VMl × VMq × (Nat → Int32))
  | 0, _, _, _, _, _, _, _, _, _, _, _, _, _ => none
  | n0 + 1, v2, v3, v5, v6, v7, v8, v9, v10, v12, v13, ml, mq, mr => fX7_heap_b197 N mg k155 (fX7_heap_l197 N mg k155 n0) v2 v3 v5 v6 v7 v8 v9 v10 v12 v13 ml mq mr
def fX7_heap_b155 (N : Nat) (mg : VMg) (k155 : Int32 → Int32 → Int32 → Int32 → Int32 → Int32 → Int32 → Int32 → VMl → VMq → (Nat → Int32) → Option (Int32 × VMl × VMq × (Nat → Int32))) (v2 : Int32) (v3 : Int32) (v5 : Int32) (v6 : Int32) (v7 : Int32) (v8 : Int32) (v9 : Int32) (v10 : Int32) (ml : VMl) (mq : VMq) (mr : Nat → Int32) : Option (Int32 × VMl × VMq × (Nat → Int32)) :=
  if v2 ≤ v10 then
    if v3 = 0 then
      some (v8, ml, mq, mr)
    else
      if v3 = 1 then
        some (v9, ml, mq, mr)
      else
        k_b2 (fX7_saysYes N mg v5 v2 v8 v9 mq) fun x_4 mq_5 =>
        if x_4 = true then
          some (1, ml, mq_5, mr)
        else
          some (0, ml, mq_5, mr)
  else
    if (65537 : Int32) = 0 then none else
    k_b1 (some (((v7 * 75) + 74) - ((v7 * 75) + 74) / (65537 : Int32) * (65537 : Int32))) fun x_9 =>
    if v6 = 0 then none else
    if k_in (x_9 - x_9 / v6 * v6) 60 then
    k_b1 (some (mr (x_9 - x_9 / v6 * v6).toNatClampNeg)) fun x_13 =>
    fX7_heap_l197 N mg k155 N v2 v3 v5 (v6 + (-1)) x_9 v8 v9 v10 x_13 (x_9 - x_9 / v6 * v6) ml mq mr else none
def fX7_heap_l155 (N : Nat) (mg : VMg) : Nat → Int32 → Int32 → Int32 → Int32 → Int32 → Int32 → Int32 → Int32 → VMl → VMq → (Nat → Int32) → Option (Int32 × VMl × VMq × (Nat → Int32))
  | 0, _, _, _, _, _, _, _, _, _, _, _ => none
  | n0 + 1, v2, v3, v5, v6, v7, v8, v9, v10, ml, mq, mr => fX7_heap_b155 N mg (fX7_heap_l155 N mg n0) v2 v3 v5 v6 v7 v8 v9 v10 ml mq mr
def fX7_heap_b122 (N : Nat) (mg : VMg) (k122 : Int32 → Int32 → Int32 → Int32 → Int32 → Int32 → VMl → VMq → (Nat → Int32) → Option (Int32 × VMl × VMq × (Nat → Int32))) (v1 : Int32) (v2 : Int32) (v3 : Int32) (v5 : Int32) (v6 : Int32) (v7 : Int32) (ml : VMl) (mq : VMq) (mr : Nat → Int32) : Option (Int32 × VMl × VMq × (Nat → Int32)) :=
  if 26 ≤ v7 then
    fX7_heap_l155 N mg N v2 v3 v5 v6 v1 0 0 0 ml mq mr
  else
    if k_in v7 26 then
    k122 v1 v2 v3 v5 v6 (v7 + 1) (upd ml.1 (v7).toNatClampNeg 0, ml.2.1, ml.2.2.1, ml.2.2.2.1, ml.2.2.2.2.1, ml.2.2.2.2.2.1, ml.2.2.2.2.2.2) mq mr else none
def fX7_heap_l122 (N : Nat) (mg : VMg) : Nat → Int32 → Int32 → Int32 → Int32 → Int32 → Int32 → VMl → VMq → (Nat → Int32) → Option (Int32 × VMl × VMq × (Nat → Int32))
  | 0, _, _, _, _, _, _, _, _, _ => none
  | n0 + 1, v1, v2, v3, v5, v6, v7, ml, mq, mr => fX7_heap_b122 N mg (fX7_heap_l122 N mg n0) v1 v2 v3 v5 v6 v7 ml mq mr
def fX7_heap_b113 (N : Nat) (mg : VMg) (k52 : Int32 → Int32 → Int32 → Int32 → Int32 → Int32 → VMl → VMq → (Nat → Int32) → Option (Int32 × VMl × VMq × (Nat → Int32))) (v1 : Int32) (v2 : Int32) (v3 : Int32) (v5 : Int32) (v6 : Int32) (v7 : Int32) (ml : VMl) (mq : VMq) (mr : Nat → Int32) : Option (Int32 × VMl × VMq × (Nat → Int32)) :=
  k52 v1 v2 v3 v5 v6 (v7 + 1) ml mq mr
def fX7_heap_b62 (N : Nat) (mg : VMg) (k52 : Int32 → Int32 → Int32 → Int32 → Int32 → Int32 → VMl → VMq → (Nat → Int32) → Option (Int32 × VMl × VMq × (Nat → Int32))) (k62 : Int32 → Int32 → Int32 → Int32 → Int32 → Int32 → Int32 → VMl → VMq → (Nat → Int32) → Option (Int32 × VMl × VMq × (Nat → Int32))) (v1 : Int32) (v2 : Int32) (v3 : Int32) (v5 : Int32) (v6 : Int32) (v7 : Int32) (v8 : Int32) (ml : VMl) (mq : VMq) (mr : Nat → Int32) : Option (Int32 × VMl × VMq × (Nat → Int32)) :=
  if k_in v7 6 then
  if (mg.2.2.1 v7.toNatClampNeg) ≤ v8 then
    fX7_heap_b113 N mg k52 v1 v2 v3 v5 v6 v7 ml mq mr
  else
    if k_in v7 6 then
    if (mg.2.1 v7.toNatClampNeg) = 0 then
      if k_in (((10 : Int32) * v7) + v8) 60 then
      if k_in v6 60 then
      k62 v1 v2 v3 v5 (v6 + 1) v7 (v8 + 1) ml mq (upd mr (v6).toNatClampNeg (mg.2.2.2.1 (((10 : Int32) * v7) + v8).toNatClampNeg)) else none else none
    else
      fX7_heap_b113 N mg k52 v1 v2 v3 v5 v6 v7 ml mq mr else none else none
def fX7_heap_l62 (N : Nat) (mg : VMg) (k52 : Int32 → Int32 → Int32 → Int32 → Int32 → Int32 → VMl → VMq → (Nat → Int32) → Option (Int32 × VMl × VMq × (Nat → Int32))) : Nat → Int32 → Int32 → Int32 → Int32 → Int32 → Int32 → Int32 → VMl → VMq → (Nat → Int32) → Option (Int32 × VMl × VMq × (Nat → Int32))
  | 0, _, _, _, _, _, _, _, _, _, _ => none
  | n0 + 1, v1, v2, v3, v5, v6, v7, v8, ml, mq, mr => fX7_heap_b62 N mg k52 (fX7_heap_l62 N mg k52 n0) v1 v2 v3 v5 v6 v7 v8 ml mq mr
def fX7_heap_b52 (N : Nat) (mg : VMg) (k52 : Int32 → Int32 → Int32 → Int32 → Int32 → Int32 → VMl → VMq → (Nat → Int32) → Option (Int32 × VMl × VMq × (Nat → Int32))) (v1 : Int32) (v2 : Int32) (v3 : Int32) (v5 : Int32) (v6 : Int32) (v7 : Int32) (ml : VMl) (mq : VMq) (mr : Nat → Int32) : Option (Int32 × VMl × VMq × (Nat → Int32)) :=
  if 6 ≤ v7 then
    fX7_heap_l122 N mg N v1 v2 v3 v5 v6 0 ml mq mr
  else
    fX7_heap_l62 N mg k52 N v1 v2 v3 v5 v6 v7 0 ml mq mr
def fX7_heap_l52 (N : Nat) (mg : VMg) : Nat → Int32 → Int32 → Int32 → Int32 → Int32 → Int32 → VMl → VMq → (Nat → Int32) → Option (Int32 × VMl × VMq × (Nat → Int32))
  | 0, _, _, _, _, _, _, _, _, _ => none
  | n0 + 1, v1, v2, v3, v5, v6, v7, ml, mq, mr => fX7_heap_b52 N mg (fX7_heap_l52 N mg n0) v1 v2 v3 v5 v6 v7 ml mq mr
def fX7_heap_b27 (N : Nat) (mg : VMg) (v1 : Int32) (v2 : Int32) (v3 : Int32) (s1 : Int32) (s2 : Bool) (ml : VMl) (mq : VMq) (mr : Nat → Int32) : Option (Int32 × VMl × VMq × (Nat → Int32)) :=
  k_b2 (fX7_barOfLot N mg s1 s2 ml) fun x_1 ml_2 =>
  if 0 ≤ x_1 then
    fX7_heap_l52 N mg N v1 v2 v3 ml_2.2.1 0 0 ml_2 mq mr
  else
    some (x_1, ml_2, mq, mr)
def fX7_heap_b26 (N : Nat) (mg : VMg) (v1 : Int32) (v2 : Int32) (v3 : Int32) (s1 : Int32) (ml : VMl) (mq : VMq) (mr : Nat → Int32) : Option (Int32 × VMl × VMq × (Nat → Int32)) :=
  fX7_heap_b27 N mg v1 v2 v3 s1 false ml mq mr
def fX7_heap (N : Nat) (mg : VMg) (p1 : Int32) (p2 : Int32) (p3 : Int32) (ml : VMl) (mq : VMq) (mr : Nat → Int32) : Option (Int32 × VMl × VMq × (Nat → Int32)) :=
  k_b1 (fX7_in p1 0 9999) fun x_1 =>
  if x_1 = true then
    k_b1 (fX7_in p3 0 2) fun x_4 =>
    if x_4 = true then
      fX7_heap_b27 N mg p1 p2 p3 p2 true ml mq mr
    else
      fX7_heap_b26 N mg p1 p2 p3 p2 ml mq mr
  else
    fX7_heap_b26 N mg p1 p2 p3 p2 ml mq mr
def fX7_image_b138 (N : Nat) (mg : VMg) (k138 : Int32 → Int32 → Int32 → VMi → Option (Int32 × VMi)) (v1 : Int32) (v2 : Int32) (v3 : Int32) (mi : VMi) : Option (Int32 × VMi) :=
  if 11 ≤ v3 then
    if k_in v1 2 then
    some (1, (mi.1, upd mi.2 (v1).toNatClampNeg (vp_nar .boolean 1))) else none
  else
    if k_in v3 11 then
    if k_in ((v2 + 80) + v3) 184 then
    k138 v1 v2 (v3 + 1) (upd mi.1 (((v2 + 80) + v3)).toNatClampNeg (mg.2.2.2.2.2.2 v3.toNatClampNeg), mi.2) else none else none
def fX7_image_l138 (N : Nat) (mg : VMg) : Nat → Int32 → Int32 → Int32 → VMi → Option (Int32 × VMi)
  | 0, _, _, _, _ => none
  | n0 + 1, v1, v2, v3, mi => fX7_image_b138 N mg (fX7_image_l138 N mg n0) v1 v2 v3 mi
def fX7_image_b81 (N : Nat) (mg : VMg) (k81 : Int32 → Int32 → Int32 → VMi → Option (Int32 × VMi)) (v1 : Int32) (v2 : Int32) (v3 : Int32) (mi : VMi) : Option (Int32 × VMi) :=
  if 60 ≤ v3 then
    if k_in (v2 + 78) 184 then
    if k_in (v2 + 79) 184 then
    fX7_image_l138 N mg N v1 v2 0 (upd (upd mi.1 ((v2 + 78)).toNatClampNeg mg.2.2.2.2.1) ((v2 + 79)).toNatClampNeg mg.2.2.2.2.2.1, mi.2) else none else none
  else
    if k_in v3 60 then
    if k_in ((v2 + 18) + v3) 184 then
    k81 v1 v2 (v3 + 1) (upd mi.1 (((v2 + 18) + v3)).toNatClampNeg (mg.2.2.2.1 v3.toNatClampNeg), mi.2) else none else none
def fX7_image_l81 (N : Nat) (mg : VMg) : Nat → Int32 → Int32 → Int32 → VMi → Option (Int32 × VMi)
  | 0, _, _, _, _ => none
  | n0 + 1, v1, v2, v3, mi => fX7_image_b81 N mg (fX7_image_l81 N mg n0) v1 v2 v3 mi
def fX7_image_b19 (N : Nat) (mg : VMg) (k19 : Int32 → Int32 → Int32 → VMi → Option (Int32 × VMi)) (v1 : Int32) (v2 : Int32) (v3 : Int32) (mi : VMi) : Option (Int32 × VMi) :=
  if 6 ≤ v3 then
    fX7_image_l81 N mg N v1 v2 0 mi
  else
    if k_in v3 6 then
    if k_in (v2 + v3) 184 then
    if k_in v3 6 then
    if k_in ((v2 + 6) + v3) 184 then
    if k_in v3 6 then
    if k_in ((v2 + 12) + v3) 184 then
    k19 v1 v2 (v3 + 1) (upd (upd (upd mi.1 ((v2 + v3)).toNatClampNeg (mg.1 v3.toNatClampNeg)) (((v2 + 6) + v3)).toNatClampNeg (mg.2.1 v3.toNatClampNeg)) (((v2 + 12) + v3)).toNatClampNeg (mg.2.2.1 v3.toNatClampNeg), mi.2) else none else none else none else none else none else none
def fX7_image_l19 (N : Nat) (mg : VMg) : Nat → Int32 → Int32 → Int32 → VMi → Option (Int32 × VMi)
  | 0, _, _, _, _ => none
  | n0 + 1, v1, v2, v3, mi => fX7_image_b19 N mg (fX7_image_l19 N mg n0) v1 v2 v3 mi
def fX7_image (N : Nat) (mg : VMg) (p1 : Int32) (mi : VMi) : Option (Int32 × VMi) :=
  k_b1 (fX7_in p1 0 1) fun x_1 =>
  if x_1 = true then
    fX7_image_l19 N mg N p1 ((92 : Int32) * p1) 0 mi
  else
    some ((-2), mi)
def fX7_restore_b150 (N : Nat) (mi : VMi) (k150 : Int32 → Int32 → VMg → Option (Int32 × VMg)) (v2 : Int32) (v3 : Int32) (mg : VMg) : Option (Int32 × VMg) :=
  if 11 ≤ v3 then
    some (1, mg)
  else
    if k_in ((v2 + 80) + v3) 184 then
    if k_in v3 11 then
    k150 v2 (v3 + 1) (mg.1, mg.2.1, mg.2.2.1, mg.2.2.2.1, mg.2.2.2.2.1, mg.2.2.2.2.2.1, upd mg.2.2.2.2.2.2 (v3).toNatClampNeg (mi.1 ((v2 + 80) + v3).toNatClampNeg)) else none else none
def fX7_restore_l150 (N : Nat) (mi : VMi) : Nat → Int32 → Int32 → VMg → Option (Int32 × VMg)
  | 0, _, _, _ => none
  | n0 + 1, v2, v3, mg => fX7_restore_b150 N mi (fX7_restore_l150 N mi n0) v2 v3 mg
def fX7_restore_b93 (N : Nat) (mi : VMi) (k93 : Int32 → Int32 → VMg → Option (Int32 × VMg)) (v2 : Int32) (v3 : Int32) (mg : VMg) : Option (Int32 × VMg) :=
  if 60 ≤ v3 then
    if k_in (v2 + 78) 184 then
    if k_in (v2 + 79) 184 then
    fX7_restore_l150 N mi N v2 0 (mg.1, mg.2.1, mg.2.2.1, mg.2.2.2.1, (mi.1 (v2 + 78).toNatClampNeg), (mi.1 (v2 + 79).toNatClampNeg), mg.2.2.2.2.2.2) else none else none
  else
    if k_in ((v2 + 18) + v3) 184 then
    if k_in v3 60 then
    k93 v2 (v3 + 1) (mg.1, mg.2.1, mg.2.2.1, upd mg.2.2.2.1 (v3).toNatClampNeg (mi.1 ((v2 + 18) + v3).toNatClampNeg), mg.2.2.2.2.1, mg.2.2.2.2.2.1, mg.2.2.2.2.2.2) else none else none
def fX7_restore_l93 (N : Nat) (mi : VMi) : Nat → Int32 → Int32 → VMg → Option (Int32 × VMg)
  | 0, _, _, _ => none
  | n0 + 1, v2, v3, mg => fX7_restore_b93 N mi (fX7_restore_l93 N mi n0) v2 v3 mg
def fX7_restore_b31 (N : Nat) (mi : VMi) (k31 : Int32 → Int32 → VMg → Option (Int32 × VMg)) (v2 : Int32) (v3 : Int32) (mg : VMg) : Option (Int32 × VMg) :=
  if 6 ≤ v3 then
    fX7_restore_l93 N mi N v2 0 mg
  else
    if k_in (v2 + v3) 184 then
    if k_in v3 6 then
    if k_in ((v2 + 6) + v3) 184 then
    if k_in v3 6 then
    if k_in ((v2 + 12) + v3) 184 then
    if k_in v3 6 then
    k31 v2 (v3 + 1) (upd mg.1 (v3).toNatClampNeg (mi.1 (v2 + v3).toNatClampNeg), upd mg.2.1 (v3).toNatClampNeg (mi.1 ((v2 + 6) + v3).toNatClampNeg), upd mg.2.2.1 (v3).toNatClampNeg (mi.1 ((v2 + 12) + v3).toNatClampNeg), mg.2.2.2.1, mg.2.2.2.2.1, mg.2.2.2.2.2.1, mg.2.2.2.2.2.2) else none else none else none else none else none else none
def fX7_restore_l31 (N : Nat) (mi : VMi) : Nat → Int32 → Int32 → VMg → Option (Int32 × VMg)
  | 0, _, _, _ => none
  | n0 + 1, v2, v3, mg => fX7_restore_b31 N mi (fX7_restore_l31 N mi n0) v2 v3 mg
def fX7_restore (N : Nat) (mi : VMi) (p1 : Int32) (mg : VMg) : Option (Int32 × VMg) :=
  k_b1 (fX7_in p1 0 1) fun x_1 =>
  if x_1 = true then
    if k_in p1 2 then
    if (mi.2 p1.toNatClampNeg) = 0 then
      some ((-3), mg)
    else
      fX7_restore_l31 N mi N ((92 : Int32) * p1) 0 mg else none
  else
    some ((-2), mg)
def fX7_told (N : Nat) (mp : VMp) (mg : VMg) (p1 : Int32) : Option (Int32) :=
  k_b1 (fX7_in p1 10 15) fun x_1 =>
  if x_1 = true then
    if k_in (p1 - 10) 6 then
    some (mg.1 (p1 - 10).toNatClampNeg) else none
  else
    k_b1 (fX7_in p1 20 25) fun x_4 =>
    if x_4 = true then
      if k_in (p1 - 20) 6 then
      some (mg.2.2.1 (p1 - 20).toNatClampNeg) else none
    else
      if p1 = 0 then
        some mp.2
      else
        if p1 = 1 then
          some mg.2.2.2.2.1
        else
          if p1 = 2 then
            some mg.2.2.2.2.2.1
          else
            if p1 = 3 then
              k_b1 (fX7_valid N mg) fun x_11 =>
              some ((63 : Int32) &&& (x_11 ^^^ (-1)))
            else
              some (-2)
