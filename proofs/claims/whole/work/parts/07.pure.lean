def f_X0_clearSecond (n : Nat) (q : Nat) (S : St) : Option (Unit × St) :=
  bd (sI S q 2 (0 : Int32)) fun (S_1 : St) =>
  bd (sI S_1 q 3 (0 : Int32)) fun (S_2 : St) =>
  some ((), S_2)
def f_X0_setInequality (n : Nat) (q : Nat) (S : St) (a1 : Int32) (a2 : Int32) : Option (Unit × St) :=
  bd (sI S q 0 a1) fun (S_1 : St) =>
  bd (sI S_1 q 1 a2) fun (S_2 : St) =>
  bo (f_X0_clearSecond n q S_2 ) fun (_ : Unit) (S_4 : St) =>
  bd (sI S_4 q 4 (0 : Int32)) fun (S_6 : St) =>
  some ((), S_6)
def f_X7_has (n : Nat) (q : Nat) (S : St) (a1 : Int32) : Option (Int32 × St) :=
  if a1 < 0 then (
    some ((0 : Int32), S)
  ) else (
    if (S.1 q 4) ≤ a1 then (
      some ((0 : Int32), S)
    ) else (
      if (10 : Int32) ≤ a1 then (
        some ((0 : Int32), S)
      ) else (
        some ((1 : Int32), S)
      )
    )
  )
def f_X7_firstOf (n : Nat) (q : Nat) (S : St) (a1 : Int32) : Option (Int32 × St) :=
  bo (f_X7_has n q S a1) fun (r_1 : Int32) (S_2 : St) =>
  if r_1 = 0 then (
    some ((-2000000001 : Int32), S_2)
  ) else (
    if a1 < 0 ∨ 10 ≤ (a1).toNatClampNeg then none else
    some ((S_2.1 (q + 2) (a1).toNatClampNeg), S_2)
  )
def f_X7_kindOf (n : Nat) (q : Nat) (S : St) (a1 : Int32) : Option (Int32 × St) :=
  bo (f_X7_has n q S a1) fun (r_1 : Int32) (S_2 : St) =>
  if r_1 = 0 then (
    some ((0 : Int32), S_2)
  ) else (
    if a1 < 0 ∨ 10 ≤ (a1).toNatClampNeg then none else
    some ((S_2.1 (q + 1) (a1).toNatClampNeg), S_2)
  )
def f_X7_secondOf (n : Nat) (q : Nat) (S : St) (a1 : Int32) : Option (Int32 × St) :=
  bo (f_X7_has n q S a1) fun (r_1 : Int32) (S_2 : St) =>
  if r_1 = 0 then (
    some ((-2000000001 : Int32), S_2)
  ) else (
    if a1 < 0 ∨ 10 ≤ (a1).toNatClampNeg then none else
    some ((S_2.1 (q + 3) (a1).toNatClampNeg), S_2)
  )
def f_X0_setCongruence_49 (n : Nat) (q : Nat) (q1 : Nat) (S : St) (x2 : Int32) (x3 : Int32) : Option (Unit × St) :=
  bd (sI S q 4 (1 : Int32)) fun (S_1 : St) =>
  bd (sI S_1 q 5 x2) fun (S_2 : St) =>
  bd (sI S_2 q 6 x3) fun (S_3 : St) =>
  some ((), S_3)
def f_X0_setCongruence (n : Nat) (q : Nat) (S : St) (q1 : Nat) (a2 : Int32) (a3 : Int32) : Option (Unit × St) :=
  bo (f_X7_firstOf n q1 S a2) fun (r_4 : Int32) (S_5 : St) =>
  bd (sI S_5 q 0 r_4) fun (S_7 : St) =>
  bo (f_X7_firstOf n q1 S_7 a3) fun (r_8 : Int32) (S_9 : St) =>
  bd (sI S_9 q 1 r_8) fun (S_11 : St) =>
  bo (f_X0_clearSecond n q S_11 ) fun (_ : Unit) (S_13 : St) =>
  bo (f_X7_kindOf n q1 S_13 a2) fun (r_15 : Int32) (S_16 : St) =>
  if r_15 = (2 : Int32) then (
    bo (f_X7_secondOf n q1 S_16 a2) fun (r_19 : Int32) (S_20 : St) =>
    bd (sI S_20 q 2 r_19) fun (S_22 : St) =>
    bo (f_X7_secondOf n q1 S_22 a3) fun (r_23 : Int32) (S_24 : St) =>
    bd (sI S_24 q 3 r_23) fun (S_26 : St) =>
    f_X0_setCongruence_49 n q q1   S_26 a2 a3
  ) else (
    f_X0_setCongruence_49 n q q1   S_16 a2 a3
  )
def f_X1_between (n : Nat) (q : Nat) (S : St) (a1 : Int32) (a2 : Int32) : Option (Int64 × St) :=
  if a1 < 0 then (
    some ((1000000000000000 : Int64), S)
  ) else (
    if (10 : Int32) ≤ a1 then (
      some ((1000000000000000 : Int64), S)
    ) else (
      if a2 < 0 then (
        some ((1000000000000000 : Int64), S)
      ) else (
        if (10 : Int32) ≤ a2 then (
          some ((1000000000000000 : Int64), S)
        ) else (
          if ((a1 * (10 : Int32)) + a2) < 0 ∨ 100 ≤ (((a1 * (10 : Int32)) + a2)).toNatClampNeg then none else
          some ((S.2 (q + 25) (((a1 * (10 : Int32)) + a2)).toNatClampNeg), S)
        )
      )
    )
  )
def f_X0_openOptions_203 (n : Nat) (q : Nat) (q1 : Nat) (S : St) (x10 : Int32) (x11 : Int64) (x13 : Int64) : Option (Int32 × St) :=
  if (lg_cmp x11 (0 : Int64)) < 0 then (
    some (x10, S)
  ) else (
    if (lg_cmp x13 (0 : Int64)) < 0 then (
      some (x10, S)
    ) else (
      some ((x10 ||| (16 : Int32)), S)
    )
  )
def f_X0_openOptions_146 (n : Nat) (q : Nat) (q1 : Nat) (S : St) (t0 : Int32) (t1 : Int32) : Option (Int32 × St) :=
  bd ((t0 ||| t1)) fun (x10_3 : Int32) =>
  if (S.1 q 4) = 0 then (
    some (x10_3, S)
  ) else (
    bo (f_X1_between n q1 S (S.1 q 5) (S.1 q 6)) fun (r_5 : Int64) (S_6 : St) =>
    bd (r_5) fun (x11_8 : Int64) =>
    bo (f_X1_between n q1 S_6 (S_6.1 q 6) (S_6.1 q 5)) fun (r_9 : Int64) (S_10 : St) =>
    bd (r_9) fun (x13_12 : Int64) =>
    if (lg_cmp x11_8 (0 : Int64)) = 0 then (
      if (lg_cmp x13_12 (0 : Int64)) = 0 then (
        some ((-1 : Int32), S_10)
      ) else (
        f_X0_openOptions_203 n q q1   S_10 x10_3 x11_8 x13_12
      )
    ) else (
      f_X0_openOptions_203 n q q1   S_10 x10_3 x11_8 x13_12
    )
  )
def f_X0_openOptions_128 (n : Nat) (q : Nat) (q1 : Nat) (S : St) (x6 : Int64) (t0 : Int32) (t1 : Int32) : Option (Int32 × St) :=
  bd ((t0 ||| t1)) fun (x10_15 : Int32) =>
  if (lg_cmp x6 (0 : Int64)) ≤ 0 then (
    f_X0_openOptions_146 n q q1   S x10_15 ((0 : Int32))
  ) else (
    f_X0_openOptions_146 n q q1   S x10_15 ((8 : Int32))
  )
def f_X0_openOptions_111 (n : Nat) (q : Nat) (q1 : Nat) (S : St) (x6 : Int64) (x8 : Int64) (t0 : Int32) (t1 : Int32) : Option (Int32 × St) :=
  bd ((t0 ||| t1)) fun (x10_17 : Int32) =>
  if (lg_cmp x8 (0 : Int64)) ≤ 0 then (
    f_X0_openOptions_128 n q q1   S x6 x10_17 ((0 : Int32))
  ) else (
    f_X0_openOptions_128 n q q1   S x6 x10_17 ((4 : Int32))
  )
def f_X0_openOptions_96 (n : Nat) (q : Nat) (q1 : Nat) (S : St) (x2 : Int64) (x6 : Int64) (x8 : Int64) (t0 : Int32) : Option (Int32 × St) :=
  bd (t0) fun (x10_19 : Int32) =>
  if (lg_cmp x2 (0 : Int64)) ≤ 0 then (
    f_X0_openOptions_111 n q q1   S x6 x8 x10_19 ((0 : Int32))
  ) else (
    f_X0_openOptions_111 n q q1   S x6 x8 x10_19 ((2 : Int32))
  )
def f_X0_openOptions (n : Nat) (q : Nat) (S : St) (q1 : Nat) : Option (Int32 × St) :=
  bo (f_X1_between n q1 S (S.1 q 0) (S.1 q 1)) fun (r_21 : Int64) (S_22 : St) =>
  bd (r_21) fun (x2_24 : Int64) =>
  bo (f_X1_between n q1 S_22 (S_22.1 q 1) (S_22.1 q 0)) fun (r_25 : Int64) (S_26 : St) =>
  bd (r_25) fun (x4_28 : Int64) =>
  bo (f_X1_between n q1 S_26 (S_26.1 q 2) (S_26.1 q 3)) fun (r_29 : Int64) (S_30 : St) =>
  bd (r_29) fun (x6_32 : Int64) =>
  bo (f_X1_between n q1 S_30 (S_30.1 q 3) (S_30.1 q 2)) fun (r_33 : Int64) (S_34 : St) =>
  bd (r_33) fun (x8_36 : Int64) =>
  if (lg_cmp x2_24 (0 : Int64)) < 0 then (
    some ((-1 : Int32), S_34)
  ) else (
    if (lg_cmp x4_28 (0 : Int64)) < 0 then (
      some ((-1 : Int32), S_34)
    ) else (
      if (lg_cmp x6_32 (0 : Int64)) < 0 then (
        some ((-1 : Int32), S_34)
      ) else (
        if 0 ≤ (lg_cmp x8_36 (0 : Int64)) then (
          if (lg_cmp x4_28 (0 : Int64)) ≤ 0 then (
            f_X0_openOptions_96 n q q1   S_34 x2_24 x6_32 x8_36 ((0 : Int32))
          ) else (
            f_X0_openOptions_96 n q q1   S_34 x2_24 x6_32 x8_36 ((1 : Int32))
          )
        ) else (
          some ((-1 : Int32), S_34)
        )
      )
    )
  )
def f_X1_bound_187 (n : Nat) (q : Nat) (x1 : Int32) (x2 : Int32) (x3 : Int64) (k74 : St → Int32 → Option (Int32 × St)) (S : St) (x7 : Int32) : Option (Int32 × St) :=
  bd (x7 + (1 : Int32)) fun (x7_1 : Int32) =>
  k74 S x7_1
def f_X1_bound_181 (n : Nat) (q : Nat) (x1 : Int32) (x2 : Int32) (x3 : Int64) (x7 : Int32) (x8 : Int64) (k74 : St → Int32 → Option (Int32 × St)) (k98 : St → Int32 → Option (Int32 × St)) (S : St) (x10 : Int32) : Option (Int32 × St) :=
  bd (x10 + (1 : Int32)) fun (x10_2 : Int32) =>
  k98 S x10_2
def f_X1_bound_98 (n : Nat) (q : Nat) (x1 : Int32) (x2 : Int32) (x3 : Int64) (x7 : Int32) (x8 : Int64) (k74 : St → Int32 → Option (Int32 × St)) (k98 : St → Int32 → Option (Int32 × St)) (S : St) (x10 : Int32) : Option (Int32 × St) :=
  if (10 : Int32) ≤ x10 then (
    f_X1_bound_187 n q x1 x2 x3 k74 S x7
  ) else (
    if (lg_cmp x8 (1000000000000000 : Int64)) = 0 then (
      f_X1_bound_187 n q x1 x2 x3 k74 S x7
    ) else (
      if ((x2 * (10 : Int32)) + x10) < 0 ∨ 100 ≤ (((x2 * (10 : Int32)) + x10)).toNatClampNeg then none else
      bd ((S.2 (q + 25) (((x2 * (10 : Int32)) + x10)).toNatClampNeg)) fun (x11_6 : Int64) =>
      if (lg_cmp x11_6 (1000000000000000 : Int64)) = 0 then (
        f_X1_bound_181 n q x1 x2 x3 x7 x8 k74 k98 S x10
      ) else (
        if ((x7 * (10 : Int32)) + x10) < 0 ∨ 100 ≤ (((x7 * (10 : Int32)) + x10)).toNatClampNeg then none else
        if 0 ≤ (lg_cmp ((x8 + x3) + x11_6) (S.2 (q + 25) (((x7 * (10 : Int32)) + x10)).toNatClampNeg)) then (
          f_X1_bound_181 n q x1 x2 x3 x7 x8 k74 k98 S x10
        ) else (
          if ((x7 * (10 : Int32)) + x10) < 0 ∨ 100 ≤ (((x7 * (10 : Int32)) + x10)).toNatClampNeg then none else
          bd (sL S (q + 25) (((x7 * (10 : Int32)) + x10)).toNatClampNeg ((x8 + x3) + x11_6)) fun (S_11 : St) =>
          f_X1_bound_181 n q x1 x2 x3 x7 x8 k74 k98 S_11 x10
        )
      )
    )
  )
def f_X1_bound_74 (n : Nat) (q : Nat) (x1 : Int32) (x2 : Int32) (x3 : Int64) (k74 : St → Int32 → Option (Int32 × St)) (S : St) (x7 : Int32) : Option (Int32 × St) :=
  if (10 : Int32) ≤ x7 then (
    some ((1 : Int32), S)
  ) else (
    if ((x7 * (10 : Int32)) + x1) < 0 ∨ 100 ≤ (((x7 * (10 : Int32)) + x1)).toNatClampNeg then none else
    bd ((S.2 (q + 25) (((x7 * (10 : Int32)) + x1)).toNatClampNeg)) fun (x8_14 : Int64) =>
    bd ((0 : Int32)) fun (x10_15 : Int32) =>
    fixF (fun _ _ => none) (f_X1_bound_98 n q x1 x2 x3 x7 x8_14 k74) n S x10_15
  )
def f_X1_bound_71 (n : Nat) (q : Nat) (S : St) (x1 : Int32) (x2 : Int32) (x3 : Int64) : Option (Int32 × St) :=
  bd ((0 : Int32)) fun (x7_16 : Int32) =>
  fixF (fun _ _ => none) (f_X1_bound_74 n q x1 x2 x3 ) n S x7_16
def f_X1_bound (n : Nat) (q : Nat) (S : St) (a1 : Int32) (a2 : Int32) (a3 : Int64) : Option (Int32 × St) :=
  if a1 < 0 then (
    some ((1 : Int32), S)
  ) else (
    if (10 : Int32) ≤ a1 then (
      some ((1 : Int32), S)
    ) else (
      if a2 < 0 then (
        some ((1 : Int32), S)
      ) else (
        if (10 : Int32) ≤ a2 then (
          some ((1 : Int32), S)
        ) else (
          if ((a1 * (10 : Int32)) + a2) < 0 ∨ 100 ≤ (((a1 * (10 : Int32)) + a2)).toNatClampNeg then none else
          if 0 < (lg_cmp (S.2 (q + 25) (((a1 * (10 : Int32)) + a2)).toNatClampNeg) a3) then (
            if ((a2 * (10 : Int32)) + a1) < 0 ∨ 100 ≤ (((a2 * (10 : Int32)) + a1)).toNatClampNeg then none else
            bd ((S.2 (q + 25) (((a2 * (10 : Int32)) + a1)).toNatClampNeg)) fun (x5_24 : Int64) =>
            if (lg_cmp x5_24 (1000000000000000 : Int64)) = 0 then (
              f_X1_bound_71 n q   S a1 a2 a3
            ) else (
              if 0 ≤ (lg_cmp (x5_24 + a3) (0 : Int64)) then (
                f_X1_bound_71 n q   S a1 a2 a3
              ) else (
                some ((0 : Int32), S)
              )
            )
          ) else (
            some ((1 : Int32), S)
          )
        )
      )
    )
  )
def f_X0_take (n : Nat) (q : Nat) (S : St) (q1 : Nat) (a2 : Int32) : Option (Int32 × St) :=
  if a2 = (0 : Int32) then (
    bo (f_X1_bound n q1 S (S.1 q 0) (S.1 q 1) (-1 : Int64)) fun (r_2 : Int32) (S_3 : St) =>
    if ¬ (r_2 = 0 ∨ r_2 = 1) then none else
    some (r_2, S_3)
  ) else (
  if a2 = (1 : Int32) then (
    bo (f_X1_bound n q1 S (S.1 q 1) (S.1 q 0) (-1 : Int64)) fun (r_7 : Int32) (S_8 : St) =>
    if ¬ (r_7 = 0 ∨ r_7 = 1) then none else
    some (r_7, S_8)
  ) else (
  if a2 = (2 : Int32) then (
    bo (f_X1_bound n q1 S (S.1 q 2) (S.1 q 3) (-1 : Int64)) fun (r_12 : Int32) (S_13 : St) =>
    if ¬ (r_12 = 0 ∨ r_12 = 1) then none else
    some (r_12, S_13)
  ) else (
  if a2 = (3 : Int32) then (
    bo (f_X1_bound n q1 S (S.1 q 3) (S.1 q 2) (-1 : Int64)) fun (r_17 : Int32) (S_18 : St) =>
    if ¬ (r_17 = 0 ∨ r_17 = 1) then none else
    some (r_17, S_18)
  ) else (
    bo (f_X1_bound n q1 S (S.1 q 5) (S.1 q 6) (0 : Int64)) fun (r_21 : Int32) (S_22 : St) =>
    if r_21 = 0 then (
      some ((0 : Int32), S_22)
    ) else (
      bo (f_X1_bound n q1 S_22 (S_22.1 q 6) (S_22.1 q 5) (0 : Int64)) fun (r_25 : Int32) (S_26 : St) =>
      if r_25 = 0 then (
        some ((0 : Int32), S_26)
      ) else (
        some ((1 : Int32), S_26)
      )
    )
  ))))
def f_J7_fill_d0a16_6 (n : Nat) (q0 : Nat) (x1 : Int64) (x4 : Int32) (k6 : St → Int32 → Option (Unit × St)) (S : St) (x3 : Int32) : Option (Unit × St) :=
  if x4 ≤ x3 then (
    some ((), S)
  ) else (
    if x3 < 0 ∨ 100 ≤ (x3).toNatClampNeg then none else
    bd (sL S q0 (x3).toNatClampNeg x1) fun (S_3 : St) =>
    bd (x3 + (1 : Int32)) fun (x3_4 : Int32) =>
    k6 S_3 x3_4
  )
def f_J7_fill_d0a16 (n : Nat) (S : St) (q0 : Nat) (a1 : Int64) : Option (Unit × St) :=
  bd ((0 : Int32)) fun (x3_5 : Int32) =>
  bd ((Int32.ofNat 100)) fun (x4_6 : Int32) =>
  fixF (fun _ _ => none) (f_J7_fill_d0a16_6 n q0 a1 x4_6 ) n S x3_5
def f_X1_clear_12 (n : Nat) (q : Nat) (k12 : St → Int32 → Option (Unit × St)) (S : St) (x1 : Int32) : Option (Unit × St) :=
  if (10 : Int32) ≤ x1 then (
    some ((), S)
  ) else (
    if ((x1 * (10 : Int32)) + x1) < 0 ∨ 100 ≤ (((x1 * (10 : Int32)) + x1)).toNatClampNeg then none else
    bd (sL S (q + 25) (((x1 * (10 : Int32)) + x1)).toNatClampNeg (0 : Int64)) fun (S_3 : St) =>
    bd (x1 + (1 : Int32)) fun (x1_4 : Int32) =>
    k12 S_3 x1_4
  )
def f_X1_clear (n : Nat) (q : Nat) (S : St) : Option (Unit × St) :=
  bo (f_J7_fill_d0a16 n S (q + 25) (1000000000000000 : Int64)) fun (_ : Unit) (S_6 : St) =>
  bd ((0 : Int32)) fun (x1_8 : Int32) =>
  fixF (fun _ _ => none) (f_X1_clear_12 n q  ) n S_6 x1_8
def f_X1_copyFrom (n : Nat) (q : Nat) (S : St) (q1 : Nat) : Option (Unit × St) :=
  bd (sR S (q + 25) (va_cpy (S.2 (q1 + 25)) (S.2 (q + 25)) 0 0 100)) fun (S_1 : St) =>
  some ((), S_1)
def f_X1_areEqual (n : Nat) (q : Nat) (S : St) (a1 : Int32) (a2 : Int32) : Option (Int32 × St) :=
  bo (f_X1_between n q S a1 a2) fun (r_1 : Int64) (S_2 : St) =>
  if (lg_cmp r_1 (0 : Int64)) = 0 then (
    bo (f_X1_between n q S_2 a2 a1) fun (r_5 : Int64) (S_6 : St) =>
    if (lg_cmp r_5 (0 : Int64)) = 0 then (
      some ((1 : Int32), S_6)
    ) else (
      some ((0 : Int32), S_6)
    )
  ) else (
    some ((0 : Int32), S_2)
  )
def f_X1_equate (n : Nat) (q : Nat) (S : St) (a1 : Int32) (a2 : Int32) : Option (Int32 × St) :=
  bo (f_X1_bound n q S a1 a2 (0 : Int64)) fun (r_1 : Int32) (S_2 : St) =>
  if r_1 = 0 then (
    some ((0 : Int32), S_2)
  ) else (
    bo (f_X1_bound n q S_2 a2 a1 (0 : Int64)) fun (r_5 : Int32) (S_6 : St) =>
    if r_5 = 0 then (
      some ((0 : Int32), S_6)
    ) else (
      some ((1 : Int32), S_6)
    )
  )
def f_X2_rounds (n : Nat) (S : St) : Option (Int32 × St) :=
  some ((S.1 21 4), S)
def f_X2_hasConflict (n : Nat) (S : St) : Option (Int32 × St) :=
  if ¬ ((S.1 21 5) = 0 ∨ (S.1 21 5) = 1) then none else
  some ((S.1 21 5), S)
def f_X2_distance (n : Nat) (S : St) (a1 : Int32) (a2 : Int32) : Option (Int64 × St) :=
  bo (f_X1_between n 96 S a1 a2) fun (r_1 : Int64) (S_2 : St) =>
  some (r_1, S_2)
def f_X2_smallestSame (n : Nat) (S : St) (a1 : Int32) : Option (Int32 × St) :=
  if a1 < 0 then (
    some ((-2000000001 : Int32), S)
  ) else (
    if (10 : Int32) ≤ a1 then (
      some ((-2000000001 : Int32), S)
    ) else (
      if a1 < 0 ∨ 10 ≤ (a1).toNatClampNeg then none else
      some ((S.1 22 (a1).toNatClampNeg), S)
    )
  )
def f_X7_size (n : Nat) (q : Nat) (S : St) : Option (Int32 × St) :=
  some ((S.1 q 4), S)
def f_X2_classes_34 (n : Nat) (k4 : St → Int32 → Int32 → Option (Int32 × St)) (S : St) (x1 : Int32) (x2 : Int32) : Option (Int32 × St) :=
  bd (x2 + (1 : Int32)) fun (x2_1 : Int32) =>
  k4 S x1 x2_1
def f_X2_classes_4 (n : Nat) (k4 : St → Int32 → Int32 → Option (Int32 × St)) (S : St) (x1 : Int32) (x2 : Int32) : Option (Int32 × St) :=
  bo (f_X7_size n 6 S ) fun (r_2 : Int32) (S_3 : St) =>
  if r_2 ≤ x2 then (
    some (x1, S_3)
  ) else (
    if (10 : Int32) ≤ x2 then (
      some (x1, S_3)
    ) else (
      if x2 < 0 ∨ 10 ≤ (x2).toNatClampNeg then none else
      if (S_3.1 22 (x2).toNatClampNeg) = x2 then (
        bd (x1 + (1 : Int32)) fun (x1_9 : Int32) =>
        f_X2_classes_34 n  k4 S_3 x1_9 x2
      ) else (
        f_X2_classes_34 n  k4 S_3 x1 x2
      )
    )
  )
def f_X2_classes (n : Nat) (S : St) : Option (Int32 × St) :=
  bd ((0 : Int32)) fun (x1_10 : Int32) =>
  bd ((0 : Int32)) fun (x2_11 : Int32) =>
  fixF (fun _ _ _ => none) (f_X2_classes_4 n  ) n S x1_10 x2_11
def f_X3_size (n : Nat) (S : St) : Option (Int32 × St) :=
  some ((S.1 16 4), S)
def f_X3_has (n : Nat) (S : St) (a1 : Int32) : Option (Int32 × St) :=
  if a1 < 0 then (
    some ((0 : Int32), S)
  ) else (
    if (S.1 16 4) ≤ a1 then (
      some ((0 : Int32), S)
    ) else (
      if (10 : Int32) ≤ a1 then (
        some ((0 : Int32), S)
      ) else (
        some ((1 : Int32), S)
      )
    )
  )
def f_X3_kindOf (n : Nat) (S : St) (a1 : Int32) : Option (Int32 × St) :=
  bo (f_X3_has n S a1) fun (r_1 : Int32) (S_2 : St) =>
  if r_1 = 0 then (
    some ((-2000000001 : Int32), S_2)
  ) else (
    if a1 < 0 ∨ 10 ≤ (a1).toNatClampNeg then none else
    some ((S_2.1 17 (a1).toNatClampNeg), S_2)
  )
def f_X3_leftOf (n : Nat) (S : St) (a1 : Int32) : Option (Int32 × St) :=
  bo (f_X3_has n S a1) fun (r_1 : Int32) (S_2 : St) =>
  if r_1 = 0 then (
    some ((-2000000001 : Int32), S_2)
  ) else (
    if a1 < 0 ∨ 10 ≤ (a1).toNatClampNeg then none else
    some ((S_2.1 18 (a1).toNatClampNeg), S_2)
  )
def f_X3_rightOf (n : Nat) (S : St) (a1 : Int32) : Option (Int32 × St) :=
  bo (f_X3_has n S a1) fun (r_1 : Int32) (S_2 : St) =>
  if r_1 = 0 then (
    some ((-2000000001 : Int32), S_2)
  ) else (
    if a1 < 0 ∨ 10 ≤ (a1).toNatClampNeg then none else
    some ((S_2.1 19 (a1).toNatClampNeg), S_2)
  )
def f_X2_join_71 (n : Nat) (x3 : Int32) (x4 : Int32) (x5 : Int32) (k32 : St → Int32 → Option (Int32 × St)) (S : St) (x6 : Int32) : Option (Int32 × St) :=
  bd (x6 + (1 : Int32)) fun (x6_1 : Int32) =>
  k32 S x6_1
def f_X2_join_62 (n : Nat) (x3 : Int32) (x4 : Int32) (x5 : Int32) (k32 : St → Int32 → Option (Int32 × St)) (S : St) (x6 : Int32) : Option (Int32 × St) :=
  if x6 < 0 ∨ 10 ≤ (x6).toNatClampNeg then none else
  bd (sI S 22 (x6).toNatClampNeg x5) fun (S_3 : St) =>
  f_X2_join_71 n x3 x4 x5 k32 S_3 x6
def f_X2_join_32 (n : Nat) (x3 : Int32) (x4 : Int32) (x5 : Int32) (k32 : St → Int32 → Option (Int32 × St)) (S : St) (x6 : Int32) : Option (Int32 × St) :=
  if (10 : Int32) ≤ x6 then (
    some ((1 : Int32), S)
  ) else (
    if x6 < 0 ∨ 10 ≤ (x6).toNatClampNeg then none else
    if (S.1 22 (x6).toNatClampNeg) = x3 then (
      f_X2_join_62 n x3 x4 x5 k32 S x6
    ) else (
      if x6 < 0 ∨ 10 ≤ (x6).toNatClampNeg then none else
      if (S.1 22 (x6).toNatClampNeg) = x4 then (
        f_X2_join_62 n x3 x4 x5 k32 S x6
      ) else (
        f_X2_join_71 n x3 x4 x5 k32 S x6
      )
    )
  )
def f_X2_join (n : Nat) (S : St) (a1 : Int32) (a2 : Int32) : Option (Int32 × St) :=
  bo (f_X2_smallestSame n S a1) fun (r_9 : Int32) (S_10 : St) =>
  bd (r_9) fun (x3_12 : Int32) =>
  bo (f_X2_smallestSame n S_10 a2) fun (r_13 : Int32) (S_14 : St) =>
  bd (r_13) fun (x4_16 : Int32) =>
  if x3_12 = x4_16 then (
    some ((0 : Int32), S_14)
  ) else (
    bd ((if x4_16 < x3_12 then x4_16 else x3_12)) fun (x5_18 : Int32) =>
    bd ((0 : Int32)) fun (x6_19 : Int32) =>
    fixF (fun _ _ => none) (f_X2_join_32 n x3_12 x4_16 x5_18 ) n S_14 x6_19
  )
def f_X2_joinByEqualities_66 (n : Nat) (k23 : St → Int32 → Option (Unit × St)) (S : St) (x1 : Int32) : Option (Unit × St) :=
  bd (x1 + (1 : Int32)) fun (x1_1 : Int32) =>
  k23 S x1_1
def f_X2_joinByEqualities_23 (n : Nat) (k23 : St → Int32 → Option (Unit × St)) (S : St) (x1 : Int32) : Option (Unit × St) :=
  bo (f_X3_size n S ) fun (r_2 : Int32) (S_3 : St) =>
  if r_2 ≤ x1 then (
    some ((), S_3)
  ) else (
    bo (f_X3_kindOf n S_3 x1) fun (r_6 : Int32) (S_7 : St) =>
    if r_6 = 0 then (
      bo (f_X3_leftOf n S_7 x1) fun (r_10 : Int32) (S_11 : St) =>
      bo (f_X3_rightOf n S_11 x1) fun (r_13 : Int32) (S_14 : St) =>
      bo (f_X2_join n S_14 r_10 r_13) fun (r_16 : Int32) (S_17 : St) =>
      f_X2_joinByEqualities_66 n  k23 S_17 x1
    ) else (
      f_X2_joinByEqualities_66 n  k23 S_7 x1
    )
  )
def f_X2_joinByEqualities_2 (n : Nat) (k2 : St → Int32 → Option (Unit × St)) (S : St) (x1 : Int32) : Option (Unit × St) :=
  if (10 : Int32) ≤ x1 then (
    bd ((0 : Int32)) fun (x1_20 : Int32) =>
    fixF (fun _ _ => none) (f_X2_joinByEqualities_23 n  ) n S x1_20
  ) else (
    if x1 < 0 ∨ 10 ≤ (x1).toNatClampNeg then none else
    bd (sI S 22 (x1).toNatClampNeg x1) fun (S_22 : St) =>
    bd (x1 + (1 : Int32)) fun (x1_23 : Int32) =>
    k2 S_22 x1_23
  )
def f_X2_joinByEqualities (n : Nat) (S : St) : Option (Unit × St) :=
  bd ((0 : Int32)) fun (x1_24 : Int32) =>
  fixF (fun _ _ => none) (f_X2_joinByEqualities_2 n  ) n S x1_24
def f_X7_haveSameFunction (n : Nat) (q : Nat) (S : St) (a1 : Int32) (a2 : Int32) : Option (Int32 × St) :=
  bo (f_X7_has n q S a1) fun (r_1 : Int32) (S_2 : St) =>
  if r_1 = 0 then (
    some ((0 : Int32), S_2)
  ) else (
    bo (f_X7_has n q S_2 a2) fun (r_5 : Int32) (S_6 : St) =>
    if r_5 = 0 then (
      some ((0 : Int32), S_6)
    ) else (
      if a1 < 0 ∨ 10 ≤ (a1).toNatClampNeg then none else
      if (S_6.1 (q + 1) (a1).toNatClampNeg) = 0 then (
        some ((0 : Int32), S_6)
      ) else (
        if a1 < 0 ∨ 10 ≤ (a1).toNatClampNeg then none else
        if a2 < 0 ∨ 10 ≤ (a2).toNatClampNeg then none else
        if (S_6.1 (q + 1) (a1).toNatClampNeg) = (S_6.1 (q + 1) (a2).toNatClampNeg) then (
          some ((1 : Int32), S_6)
        ) else (
          some ((0 : Int32), S_6)
        )
      )
    )
  )
def f_X2_haveSameArguments (n : Nat) (S : St) (a1 : Int32) (a2 : Int32) : Option (Int32 × St) :=
  bo (f_X7_haveSameFunction n 6 S a1 a2) fun (r_1 : Int32) (S_2 : St) =>
  if r_1 = 0 then (
    some ((0 : Int32), S_2)
  ) else (
    bo (f_X7_firstOf n 6 S_2 a1) fun (r_5 : Int32) (S_6 : St) =>
    bo (f_X2_smallestSame n S_6 r_5) fun (r_8 : Int32) (S_9 : St) =>
    bo (f_X7_firstOf n 6 S_9 a2) fun (r_11 : Int32) (S_12 : St) =>
    bo (f_X2_smallestSame n S_12 r_11) fun (r_14 : Int32) (S_15 : St) =>
    if r_8 = r_14 then (
      bo (f_X7_secondOf n 6 S_15 a1) fun (r_18 : Int32) (S_19 : St) =>
      bo (f_X2_smallestSame n S_19 r_18) fun (r_21 : Int32) (S_22 : St) =>
      bo (f_X7_secondOf n 6 S_22 a2) fun (r_24 : Int32) (S_25 : St) =>
      bo (f_X2_smallestSame n S_25 r_24) fun (r_27 : Int32) (S_28 : St) =>
      if r_21 = r_27 then (
        some ((1 : Int32), S_28)
      ) else (
        some ((0 : Int32), S_28)
      )
    ) else (
      some ((0 : Int32), S_15)
    )
  )
def f_X2_joinByCongruence_68 (n : Nat) (x2 : Int32) (x3 : Int32) (k4 : St → Int32 → Int32 → Option (Unit × St)) (k18 : St → Int32 → Int32 → Option (Unit × St)) (k34 : St → Int32 → Int32 → Option (Unit × St)) (S : St) (x1 : Int32) (x4 : Int32) : Option (Unit × St) :=
  bd (x4 + (1 : Int32)) fun (x4_1 : Int32) =>
  k34 S x1 x4_1
def f_X2_joinByCongruence_34 (n : Nat) (x2 : Int32) (x3 : Int32) (k4 : St → Int32 → Int32 → Option (Unit × St)) (k18 : St → Int32 → Int32 → Option (Unit × St)) (k34 : St → Int32 → Int32 → Option (Unit × St)) (S : St) (x1 : Int32) (x4 : Int32) : Option (Unit × St) :=
  bo (f_X7_size n 6 S ) fun (r_2 : Int32) (S_3 : St) =>
  if r_2 ≤ x4 then (
    bd (x3 + (1 : Int32)) fun (x3_6 : Int32) =>
    k18 S_3 x1 x3_6
  ) else (
    bo (f_X2_haveSameArguments n S_3 x3 x4) fun (r_7 : Int32) (S_8 : St) =>
    if r_7 = 0 then (
      f_X2_joinByCongruence_68 n x2 x3 k4 k18 k34 S_8 x1 x4
    ) else (
      bo (f_X2_join n S_8 x3 x4) fun (r_11 : Int32) (S_12 : St) =>
      if r_11 = 0 then (
        f_X2_joinByCongruence_68 n x2 x3 k4 k18 k34 S_12 x1 x4
      ) else (
        bd ((1 : Int32)) fun (x1_15 : Int32) =>
        f_X2_joinByCongruence_68 n x2 x3 k4 k18 k34 S_12 x1_15 x4
      )
    )
  )
def f_X2_joinByCongruence_18 (n : Nat) (x2 : Int32) (k4 : St → Int32 → Int32 → Option (Unit × St)) (k18 : St → Int32 → Int32 → Option (Unit × St)) (S : St) (x1 : Int32) (x3 : Int32) : Option (Unit × St) :=
  bo (f_X7_size n 6 S ) fun (r_16 : Int32) (S_17 : St) =>
  if r_16 ≤ x3 then (
    bd (x2 + (1 : Int32)) fun (x2_20 : Int32) =>
    k4 S_17 x1 x2_20
  ) else (
    bd ((x3 + (1 : Int32))) fun (x4_21 : Int32) =>
    fixF (fun _ _ _ => none) (f_X2_joinByCongruence_34 n x2 x3 k4 k18) n S_17 x1 x4_21
  )
def f_X2_joinByCongruence_4 (n : Nat) (k4 : St → Int32 → Int32 → Option (Unit × St)) (S : St) (x1 : Int32) (x2 : Int32) : Option (Unit × St) :=
  if (10 : Int32) ≤ x2 then (
    some ((), S)
  ) else (
    if x1 = 0 then (
      some ((), S)
    ) else (
      bd ((0 : Int32)) fun (x1_24 : Int32) =>
      bd ((5 : Int32)) fun (x3_25 : Int32) =>
      fixF (fun _ _ _ => none) (f_X2_joinByCongruence_18 n x2 k4) n S x1_24 x3_25
    )
  )
def f_X2_joinByCongruence (n : Nat) (S : St) : Option (Unit × St) :=
  bd ((1 : Int32)) fun (x1_26 : Int32) =>
  bd ((0 : Int32)) fun (x2_27 : Int32) =>
  fixF (fun _ _ _ => none) (f_X2_joinByCongruence_4 n  ) n S x1_26 x2_27
def f_X3_numberOf (n : Nat) (S : St) (a1 : Int32) : Option (Int32 × St) :=
  bo (f_X3_has n S a1) fun (r_1 : Int32) (S_2 : St) =>
  if r_1 = 0 then (
    some ((0 : Int32), S_2)
  ) else (
    if a1 < 0 ∨ 10 ≤ (a1).toNatClampNeg then none else
    some ((S_2.1 20 (a1).toNatClampNeg), S_2)
  )
def f_X2_measure_102 (n : Nat) (k42 : St → Int32 → Option (Int32 × St)) (S : St) (x1 : Int32) : Option (Int32 × St) :=
  bd (x1 + (1 : Int32)) fun (x1_1 : Int32) =>
  k42 S x1_1
def f_X2_measure_42 (n : Nat) (k42 : St → Int32 → Option (Int32 × St)) (S : St) (x1 : Int32) : Option (Int32 × St) :=
  bo (f_X3_size n S ) fun (r_2 : Int32) (S_3 : St) =>
  if r_2 ≤ x1 then (
    some ((1 : Int32), S_3)
  ) else (
    bo (f_X3_kindOf n S_3 x1) fun (r_6 : Int32) (S_7 : St) =>
    if r_6 = (2 : Int32) then (
      bo (f_X3_leftOf n S_7 x1) fun (r_10 : Int32) (S_11 : St) =>
      bo (f_X3_rightOf n S_11 x1) fun (r_13 : Int32) (S_14 : St) =>
      bo (f_X3_numberOf n S_14 x1) fun (r_16 : Int32) (S_17 : St) =>
      bo (f_X1_bound n 96 S_17 r_10 r_13 (r_16).toInt64) fun (r_19 : Int32) (S_20 : St) =>
      if r_19 = 0 then (
        some ((0 : Int32), S_20)
      ) else (
        f_X2_measure_102 n  k42 S_20 x1
      )
    ) else (
      f_X2_measure_102 n  k42 S_7 x1
    )
  )
def f_X2_measure_9 (n : Nat) (k9 : St → Int32 → Option (Int32 × St)) (S : St) (x1 : Int32) : Option (Int32 × St) :=
  if (10 : Int32) ≤ x1 then (
    bd ((0 : Int32)) fun (x1_24 : Int32) =>
    fixF (fun _ _ => none) (f_X2_measure_42 n  ) n S x1_24
  ) else (
    if x1 < 0 ∨ 10 ≤ (x1).toNatClampNeg then none else
    bo (f_X1_equate n 96 S x1 ((S.1 22 (x1).toNatClampNeg))) fun (r_26 : Int32) (S_27 : St) =>
    if r_26 = 0 then (
      some ((0 : Int32), S_27)
    ) else (
      bd (x1 + (1 : Int32)) fun (x1_30 : Int32) =>
      k9 S_27 x1_30
    )
  )
def f_X2_measure (n : Nat) (S : St) : Option (Int32 × St) :=
  bo (f_X1_clear n 96 S ) fun (_ : Unit) (S_32 : St) =>
  bd ((0 : Int32)) fun (x1_34 : Int32) =>
  fixF (fun _ _ => none) (f_X2_measure_9 n  ) n S_32 x1_34
def f_X2_joinByDistances_53 (n : Nat) (x2 : Int32) (k4 : St → Int32 → Int32 → Option (Int32 × St)) (k19 : St → Int32 → Int32 → Option (Int32 × St)) (S : St) (x1 : Int32) (x3 : Int32) : Option (Int32 × St) :=
  bd (x3 + (1 : Int32)) fun (x3_1 : Int32) =>
  k19 S x1 x3_1
def f_X2_joinByDistances_19 (n : Nat) (x2 : Int32) (k4 : St → Int32 → Int32 → Option (Int32 × St)) (k19 : St → Int32 → Int32 → Option (Int32 × St)) (S : St) (x1 : Int32) (x3 : Int32) : Option (Int32 × St) :=
  bo (f_X7_size n 6 S ) fun (r_2 : Int32) (S_3 : St) =>
  if r_2 ≤ x3 then (
    bd (x2 + (1 : Int32)) fun (x2_6 : Int32) =>
    k4 S_3 x1 x2_6
  ) else (
    bo (f_X1_areEqual n 96 S_3 x2 x3) fun (r_7 : Int32) (S_8 : St) =>
    if r_7 = 0 then (
      f_X2_joinByDistances_53 n x2 k4 k19 S_8 x1 x3
    ) else (
      bo (f_X2_join n S_8 x2 x3) fun (r_11 : Int32) (S_12 : St) =>
      if r_11 = 0 then (
        f_X2_joinByDistances_53 n x2 k4 k19 S_12 x1 x3
      ) else (
        bd ((1 : Int32)) fun (x1_15 : Int32) =>
        f_X2_joinByDistances_53 n x2 k4 k19 S_12 x1_15 x3
      )
    )
  )
def f_X2_joinByDistances_4 (n : Nat) (k4 : St → Int32 → Int32 → Option (Int32 × St)) (S : St) (x1 : Int32) (x2 : Int32) : Option (Int32 × St) :=
  bo (f_X7_size n 6 S ) fun (r_16 : Int32) (S_17 : St) =>
  if r_16 ≤ x2 then (
    if ¬ (x1 = 0 ∨ x1 = 1) then none else
    some (x1, S_17)
  ) else (
    bd ((x2 + (1 : Int32))) fun (x3_21 : Int32) =>
    fixF (fun _ _ _ => none) (f_X2_joinByDistances_19 n x2 k4) n S_17 x1 x3_21
  )
def f_X2_joinByDistances (n : Nat) (S : St) : Option (Int32 × St) :=
  bd ((0 : Int32)) fun (x1_22 : Int32) =>
  bd ((0 : Int32)) fun (x2_23 : Int32) =>
  fixF (fun _ _ _ => none) (f_X2_joinByDistances_4 n  ) n S x1_22 x2_23
def f_X2_violatesInequality_54 (n : Nat) (k2 : St → Int32 → Option (Int32 × St)) (S : St) (x1 : Int32) : Option (Int32 × St) :=
  bd (x1 + (1 : Int32)) fun (x1_1 : Int32) =>
  k2 S x1_1
def f_X2_violatesInequality_2 (n : Nat) (k2 : St → Int32 → Option (Int32 × St)) (S : St) (x1 : Int32) : Option (Int32 × St) :=
  bo (f_X3_size n S ) fun (r_2 : Int32) (S_3 : St) =>
  if r_2 ≤ x1 then (
    some ((0 : Int32), S_3)
  ) else (
    bo (f_X3_kindOf n S_3 x1) fun (r_6 : Int32) (S_7 : St) =>
    if r_6 = (1 : Int32) then (
      bo (f_X3_leftOf n S_7 x1) fun (r_10 : Int32) (S_11 : St) =>
      bo (f_X2_smallestSame n S_11 r_10) fun (r_13 : Int32) (S_14 : St) =>
      bo (f_X3_rightOf n S_14 x1) fun (r_16 : Int32) (S_17 : St) =>
      bo (f_X2_smallestSame n S_17 r_16) fun (r_19 : Int32) (S_20 : St) =>
      if r_13 = r_19 then (
        some ((1 : Int32), S_20)
      ) else (
        f_X2_violatesInequality_54 n  k2 S_20 x1
      )
    ) else (
      f_X2_violatesInequality_54 n  k2 S_7 x1
    )
  )
def f_X2_violatesInequality (n : Nat) (S : St) : Option (Int32 × St) :=
  bd ((0 : Int32)) fun (x1_23 : Int32) =>
  fixF (fun _ _ => none) (f_X2_violatesInequality_2 n  ) n S x1_23
def f_X2_run_51 (n : Nat) (S : St) : Option (Unit × St) :=
  bo (f_X2_violatesInequality n S ) fun (r_1 : Int32) (S_2 : St) =>
  if ¬ (r_1 = 0 ∨ r_1 = 1) then none else
  bd (sI S_2 21 5 r_1) fun (S_4 : St) =>
  some ((), S_4)
def f_X2_run_8 (n : Nat) (k8 : St → Int32 → Int32 → Option (Unit × St)) (S : St) (x1 : Int32) (x2 : Int32) : Option (Unit × St) :=
  if (10 : Int32) < x2 then (
    f_X2_run_51 n   S 
  ) else (
    if x1 = 0 then (
      f_X2_run_51 n   S 
    ) else (
      bd (sI S 21 4 x2) fun (S_8 : St) =>
      bo (f_X2_joinByCongruence n S_8 ) fun (_ : Unit) (S_10 : St) =>
      bo (f_X2_measure n S_10 ) fun (r_12 : Int32) (S_13 : St) =>
      if r_12 = 0 then (
        bd (sI S_13 21 5 (1 : Int32)) fun (S_21 : St) =>
        some ((), S_21)
      ) else (
        bo (f_X2_joinByDistances n S_13 ) fun (r_16 : Int32) (S_17 : St) =>
        bd (r_16) fun (x1_19 : Int32) =>
        bd (x2 + (1 : Int32)) fun (x2_20 : Int32) =>
        k8 S_17 x1_19 x2_20
      )
    )
  )
def f_X2_run (n : Nat) (S : St) : Option (Unit × St) :=
  bo (f_X2_joinByEqualities n S ) fun (_ : Unit) (S_23 : St) =>
  bd ((1 : Int32)) fun (x1_25 : Int32) =>
  bd ((1 : Int32)) fun (x2_26 : Int32) =>
  fixF (fun _ _ _ => none) (f_X2_run_8 n  ) n S_23 x1_25 x2_26
def f_X3_all (n : Nat) (S : St) : Option (Int32 × St) :=
  some ((((1 : Int32) <<< ((S.1 16 4) &&& 31)) - (1 : Int32)), S)
def f_X3_howManyHave_41 (n : Nat) (x1 : Int32) (k4 : St → Int32 → Int32 → Option (Int32 × St)) (S : St) (x2 : Int32) (x3 : Int32) : Option (Int32 × St) :=
  bd (x3 + (1 : Int32)) fun (x3_1 : Int32) =>
  k4 S x2 x3_1
def f_X3_howManyHave_38 (n : Nat) (x1 : Int32) (k4 : St → Int32 → Int32 → Option (Int32 × St)) (S : St) (x2 : Int32) (x3 : Int32) : Option (Int32 × St) :=
  bd (x2 + (1 : Int32)) fun (x2_2 : Int32) =>
  f_X3_howManyHave_41 n x1 k4 S x2_2 x3
def f_X3_howManyHave_4 (n : Nat) (x1 : Int32) (k4 : St → Int32 → Int32 → Option (Int32 × St)) (S : St) (x2 : Int32) (x3 : Int32) : Option (Int32 × St) :=
  if (S.1 16 4) ≤ x3 then (
    some (x2, S)
  ) else (
    if (10 : Int32) ≤ x3 then (
      some (x2, S)
    ) else (
      if x3 < 0 ∨ 10 ≤ (x3).toNatClampNeg then none else
      if (S.1 18 (x3).toNatClampNeg) = x1 then (
        f_X3_howManyHave_38 n x1 k4 S x2 x3
      ) else (
        if x3 < 0 ∨ 10 ≤ (x3).toNatClampNeg then none else
        if (S.1 19 (x3).toNatClampNeg) = x1 then (
          f_X3_howManyHave_38 n x1 k4 S x2 x3
        ) else (
          f_X3_howManyHave_41 n x1 k4 S x2 x3
        )
      )
    )
  )
def f_X3_howManyHave (n : Nat) (S : St) (a1 : Int32) : Option (Int32 × St) :=
  bd ((0 : Int32)) fun (x2_9 : Int32) =>
  bd ((0 : Int32)) fun (x3_10 : Int32) =>
  fixF (fun _ _ _ => none) (f_X3_howManyHave_4 n a1 ) n S x2_9 x3_10
def f_X3_append (n : Nat) (S : St) (a1 : Int32) (a2 : Int32) (a3 : Int32) (a4 : Int32) : Option (Unit × St) :=
  if (S.1 16 4) < 0 then (
    some ((), S)
  ) else (
    if (S.1 16 4) < (10 : Int32) then (
      if (S.1 16 4) < 0 ∨ 10 ≤ ((S.1 16 4)).toNatClampNeg then none else
      bd (sI S 17 ((S.1 16 4)).toNatClampNeg a1) fun (S_4 : St) =>
      if (S_4.1 16 4) < 0 ∨ 10 ≤ ((S_4.1 16 4)).toNatClampNeg then none else
      bd (sI S_4 18 ((S_4.1 16 4)).toNatClampNeg a2) fun (S_6 : St) =>
      if (S_6.1 16 4) < 0 ∨ 10 ≤ ((S_6.1 16 4)).toNatClampNeg then none else
      bd (sI S_6 19 ((S_6.1 16 4)).toNatClampNeg a3) fun (S_8 : St) =>
      if (S_8.1 16 4) < 0 ∨ 10 ≤ ((S_8.1 16 4)).toNatClampNeg then none else
      bd (sI S_8 20 ((S_8.1 16 4)).toNatClampNeg a4) fun (S_10 : St) =>
      bd (sI S_10 16 4 ((S_10.1 16 4) + (1 : Int32))) fun (S_11 : St) =>
      some ((), S_11)
    ) else (
      some ((), S)
    )
  )
def f_X3_removeAt_91 (n : Nat) (S : St) : Option (Unit × St) :=
  bd (sI S 16 4 ((S.1 16 4) - (1 : Int32))) fun (S_1 : St) =>
  some ((), S_1)
def f_X3_removeAt_11 (n : Nat) (k11 : St → Int32 → Option (Unit × St)) (S : St) (x2 : Int32) : Option (Unit × St) :=
  if (S.1 16 4) ≤ (x2 + (1 : Int32)) then (
    f_X3_removeAt_91 n   S 
  ) else (
    if (10 : Int32) ≤ (x2 + (1 : Int32)) then (
      f_X3_removeAt_91 n   S 
    ) else (
      if (x2 + (1 : Int32)) < 0 ∨ 10 ≤ ((x2 + (1 : Int32))).toNatClampNeg then none else
      if x2 < 0 ∨ 10 ≤ (x2).toNatClampNeg then none else
      bd (sI S 17 (x2).toNatClampNeg (S.1 17 ((x2 + (1 : Int32))).toNatClampNeg)) fun (S_6 : St) =>
      if (x2 + (1 : Int32)) < 0 ∨ 10 ≤ ((x2 + (1 : Int32))).toNatClampNeg then none else
      if x2 < 0 ∨ 10 ≤ (x2).toNatClampNeg then none else
      bd (sI S_6 18 (x2).toNatClampNeg (S_6.1 18 ((x2 + (1 : Int32))).toNatClampNeg)) fun (S_9 : St) =>
      if (x2 + (1 : Int32)) < 0 ∨ 10 ≤ ((x2 + (1 : Int32))).toNatClampNeg then none else
      if x2 < 0 ∨ 10 ≤ (x2).toNatClampNeg then none else
      bd (sI S_9 19 (x2).toNatClampNeg (S_9.1 19 ((x2 + (1 : Int32))).toNatClampNeg)) fun (S_12 : St) =>
      if (x2 + (1 : Int32)) < 0 ∨ 10 ≤ ((x2 + (1 : Int32))).toNatClampNeg then none else
      if x2 < 0 ∨ 10 ≤ (x2).toNatClampNeg then none else
      bd (sI S_12 20 (x2).toNatClampNeg (S_12.1 20 ((x2 + (1 : Int32))).toNatClampNeg)) fun (S_15 : St) =>
      bd (x2 + (1 : Int32)) fun (x2_16 : Int32) =>
      k11 S_15 x2_16
    )
  )
def f_X3_removeAt (n : Nat) (S : St) (a1 : Int32) : Option (Unit × St) :=
  bo (f_X3_has n S a1) fun (r_17 : Int32) (S_18 : St) =>
  if r_17 = 0 then (
    some ((), S_18)
  ) else (
    bd (a1) fun (x2_21 : Int32) =>
    fixF (fun _ _ => none) (f_X3_removeAt_11 n  ) n S_18 x2_21
  )
def f_X3_setTerms (n : Nat) (S : St) (a1 : Int32) (a2 : Int32) (a3 : Int32) : Option (Unit × St) :=
  bo (f_X3_has n S a1) fun (r_1 : Int32) (S_2 : St) =>
  if r_1 = 0 then (
    some ((), S_2)
  ) else (
    if a1 < 0 ∨ 10 ≤ (a1).toNatClampNeg then none else
    bd (sI S_2 18 (a1).toNatClampNeg a2) fun (S_6 : St) =>
    if a1 < 0 ∨ 10 ≤ (a1).toNatClampNeg then none else
    bd (sI S_6 19 (a1).toNatClampNeg a3) fun (S_8 : St) =>
    some ((), S_8)
  )
def f_X3_setNumber (n : Nat) (S : St) (a1 : Int32) (a2 : Int32) : Option (Unit × St) :=
  bo (f_X3_has n S a1) fun (r_1 : Int32) (S_2 : St) =>
  if r_1 = 0 then (
    some ((), S_2)
  ) else (
    if a1 < 0 ∨ 10 ≤ (a1).toNatClampNeg then none else
    bd (sI S_2 20 (a1).toNatClampNeg a2) fun (S_6 : St) =>
    some ((), S_6)
  )
def f_X4_first (n : Nat) (S : St) : Option (Int32 × St) :=
  some ((S.1 26 2), S)
def f_X4_second (n : Nat) (S : St) : Option (Int32 × St) :=
  some ((S.1 26 3), S)
def f_X6_aimAt (n : Nat) (S : St) (a1 : Int32) (a2 : Int32) : Option (Unit × St) :=
  bd (sI S 23 8 a1) fun (S_1 : St) =>
  bd (sI S_1 23 9 a2) fun (S_2 : St) =>
  some ((), S_2)
def f_X6_demandEqual (n : Nat) (S : St) (a1 : Int32) (a2 : Int32) : Option (Unit × St) :=
  if (0 : Int32) < 0 ∨ 23 ≤ ((0 : Int32)).toNatClampNeg then none else
  bo (f_X1_equate n ((72 + ((0 : Int32)).toNatClampNeg)) S a1 a2) fun (r_2 : Int32) (S_3 : St) =>
  if r_2 = 0 then (
    bd (sI S_3 23 6 (1 : Int32)) fun (S_6 : St) =>
    some ((), S_6)
  ) else (
    some ((), S_3)
  )
def f_X6_demandDifferent (n : Nat) (S : St) (a1 : Int32) (a2 : Int32) : Option (Unit × St) :=
  if (S.1 23 3) < 0 then (
    some ((), S)
  ) else (
    if (22 : Int32) ≤ (S.1 23 3) then (
      some ((), S)
    ) else (
      if (S.1 23 3) < 0 ∨ 22 ≤ ((S.1 23 3)).toNatClampNeg then none else
      bo (f_X0_setInequality n ((50 + ((S.1 23 3)).toNatClampNeg)) S a1 a2) fun (_ : Unit) (S_5 : St) =>
      bd (sI S_5 23 3 ((S_5.1 23 3) + (1 : Int32))) fun (S_7 : St) =>
      some ((), S_7)
    )
  )
def f_X6_demandAtMost (n : Nat) (S : St) (a1 : Int32) (a2 : Int32) (a3 : Int32) : Option (Unit × St) :=
  if (0 : Int32) < 0 ∨ 23 ≤ ((0 : Int32)).toNatClampNeg then none else
  bo (f_X1_bound n ((72 + ((0 : Int32)).toNatClampNeg)) S a1 a2 (a3).toInt64) fun (r_2 : Int32) (S_3 : St) =>
  if r_2 = 0 then (
    bd (sI S_3 23 6 (1 : Int32)) fun (S_6 : St) =>
    some ((), S_6)
  ) else (
    some ((), S_3)
  )
def f_X6_demandLiteral (n : Nat) (S : St) (a1 : Int32) : Option (Unit × St) :=
  bo (f_X3_leftOf n S a1) fun (r_1 : Int32) (S_2 : St) =>
  bd (r_1) fun (x2_4 : Int32) =>
  bo (f_X3_rightOf n S_2 a1) fun (r_5 : Int32) (S_6 : St) =>
  bd (r_5) fun (x3_8 : Int32) =>
  bo (f_X3_kindOf n S_6 a1) fun (r_9 : Int32) (S_10 : St) =>
  if r_9 = 0 then (
    bo (f_X6_demandEqual n S_10 x2_4 x3_8) fun (_ : Unit) (S_27 : St) =>
    some ((), S_27)
  ) else (
    bo (f_X3_kindOf n S_10 a1) fun (r_13 : Int32) (S_14 : St) =>
    if r_13 = (1 : Int32) then (
      bo (f_X6_demandDifferent n S_14 x2_4 x3_8) fun (_ : Unit) (S_24 : St) =>
      some ((), S_24)
    ) else (
      bo (f_X3_numberOf n S_14 a1) fun (r_17 : Int32) (S_18 : St) =>
      bo (f_X6_demandAtMost n S_18 x2_4 x3_8 r_17) fun (_ : Unit) (S_21 : St) =>
      some ((), S_21)
    )
  )
def f_X6_load_140 (n : Nat) (x2 : Int32) (k65 : St → Int32 → Option (Unit × St)) (k80 : St → Int32 → Option (Unit × St)) (S : St) (x3 : Int32) : Option (Unit × St) :=
  bd (x3 + (1 : Int32)) fun (x3_1 : Int32) =>
  k80 S x3_1
def f_X6_load_80 (n : Nat) (x2 : Int32) (k65 : St → Int32 → Option (Unit × St)) (k80 : St → Int32 → Option (Unit × St)) (S : St) (x3 : Int32) : Option (Unit × St) :=
  bo (f_X7_size n 6 S ) fun (r_2 : Int32) (S_3 : St) =>
  if r_2 ≤ x3 then (
    bd (x2 + (1 : Int32)) fun (x2_6 : Int32) =>
    k65 S_3 x2_6
  ) else (
    bo (f_X7_haveSameFunction n 6 S_3 x2 x3) fun (r_7 : Int32) (S_8 : St) =>
    if r_7 = 0 then (
      f_X6_load_140 n x2 k65 k80 S_8 x3
    ) else (
      if (22 : Int32) ≤ (S_8.1 23 3) then (
        f_X6_load_140 n x2 k65 k80 S_8 x3
      ) else (
        if (S_8.1 23 3) < 0 ∨ 22 ≤ ((S_8.1 23 3)).toNatClampNeg then none else
        bo (f_X0_setCongruence n ((50 + ((S_8.1 23 3)).toNatClampNeg)) S_8 6 x2 x3) fun (_ : Unit) (S_14 : St) =>
        bd (sI S_14 23 3 ((S_14.1 23 3) + (1 : Int32))) fun (S_16 : St) =>
        f_X6_load_140 n x2 k65 k80 S_16 x3
      )
    )
  )
def f_X6_load_65 (n : Nat) (k65 : St → Int32 → Option (Unit × St)) (S : St) (x2 : Int32) : Option (Unit × St) :=
  bo (f_X7_size n 6 S ) fun (r_17 : Int32) (S_18 : St) =>
  if r_17 ≤ x2 then (
    some ((), S_18)
  ) else (
    bd ((x2 + (1 : Int32))) fun (x3_21 : Int32) =>
    fixF (fun _ _ => none) (f_X6_load_80 n x2 k65) n S_18 x3_21
  )
def f_X6_load_57 (n : Nat) (x1 : Int32) (k32 : St → Int32 → Option (Unit × St)) (S : St) (x2 : Int32) : Option (Unit × St) :=
  bd (x2 + (1 : Int32)) fun (x2_22 : Int32) =>
  k32 S x2_22
def f_X6_load_32 (n : Nat) (x1 : Int32) (k32 : St → Int32 → Option (Unit × St)) (S : St) (x2 : Int32) : Option (Unit × St) :=
  bo (f_X3_size n S ) fun (r_23 : Int32) (S_24 : St) =>
  if r_23 ≤ x2 then (
    bd ((5 : Int32)) fun (x2_27 : Int32) =>
    fixF (fun _ _ => none) (f_X6_load_65 n  ) n S_24 x2_27
  ) else (
    if ((x1 >>> (x2 &&& 31)) &&& (1 : Int32)) = (1 : Int32) then (
      bo (f_X6_demandLiteral n S_24 x2) fun (_ : Unit) (S_30 : St) =>
      f_X6_load_57 n x1 k32 S_30 x2
    ) else (
      f_X6_load_57 n x1 k32 S_24 x2
    )
  )
def f_X6_load (n : Nat) (S : St) (a1 : Int32) : Option (Unit × St) :=
  bd (sI S 23 3 (0 : Int32)) fun (S_32 : St) =>
  bd (sI S_32 23 6 (0 : Int32)) fun (S_33 : St) =>
  bd (sI S_33 23 7 (0 : Int32)) fun (S_34 : St) =>
  bo (f_X6_aimAt n S_34 (0 : Int32) (0 : Int32)) fun (_ : Unit) (S_36 : St) =>
  if (0 : Int32) < 0 ∨ 23 ≤ ((0 : Int32)).toNatClampNeg then none else
  bo (f_X1_clear n ((72 + ((0 : Int32)).toNatClampNeg)) S_36 ) fun (_ : Unit) (S_40 : St) =>
  bd ((0 : Int32)) fun (x2_42 : Int32) =>
  fixF (fun _ _ => none) (f_X6_load_32 n a1 ) n S_40 x2_42
def f_X4_demandDifferentNames (n : Nat) (S : St) (a1 : Int32) : Option (Unit × St) :=
  if a1 < 0 then (
    some ((), S)
  ) else (
    if (10 : Int32) ≤ a1 then (
      some ((), S)
    ) else (
      if a1 < 0 ∨ 10 ≤ (a1).toNatClampNeg then none else
      if a1 < 0 ∨ 10 ≤ (a1).toNatClampNeg then none else
      bo (f_X6_demandDifferent n S ((loF (a1).toNatClampNeg)) ((upF (a1).toNatClampNeg))) fun (_ : Unit) (S_6 : St) =>
      some ((), S_6)
    )
  )
def f_X6_greatest (n : Nat) (S : St) : Option (Int64 × St) :=
  bo (f_X1_between n 95 S (S.1 23 8) (S.1 23 9)) fun (r_1 : Int64) (S_2 : St) =>
  some (r_1, S_2)
def f_X6_demandsMore (n : Nat) (S : St) (q1 : Nat) : Option (Int32 × St) :=
  if (S.1 23 7) = 0 then (
    some ((1 : Int32), S)
  ) else (
    bo (f_X6_greatest n S ) fun (r_2 : Int64) (S_3 : St) =>
    if (lg_cmp r_2 (1000000000000000 : Int64)) = 0 then (
      some ((0 : Int32), S_3)
    ) else (
      bo (f_X6_greatest n S_3 ) fun (r_6 : Int64) (S_7 : St) =>
      bo (f_X1_bound n q1 S_7 (S_3.1 23 9) (S_3.1 23 8) (((-r_6) - (1 : Int64)))) fun (r_9 : Int32) (S_10 : St) =>
      if r_9 = 0 then (
        some ((0 : Int32), S_10)
      ) else (
        some ((1 : Int32), S_10)
      )
    )
  )
def f_X6_takeForcedOptions_103 (n : Nat) (q1 : Nat) (k4 : St → Int32 → Int32 → Option (Int32 × St)) (S : St) (x2 : Int32) (x3 : Int32) : Option (Int32 × St) :=
  bd (x3 + (1 : Int32)) fun (x3_1 : Int32) =>
  k4 S x2 x3_1
def f_X6_takeForcedOptions_91 (n : Nat) (q1 : Nat) (x3 : Int32) (x4 : Int32) (x5 : Int32) (k4 : St → Int32 → Int32 → Option (Int32 × St)) (k19 : St → Int32 → Int32 → Option (Int32 × St)) (k58 : St → Int32 → Int32 → Option (Int32 × St)) (S : St) (x2 : Int32) (x6 : Int32) : Option (Int32 × St) :=
  bd (x6 + (1 : Int32)) fun (x6_2 : Int32) =>
  k58 S x2 x6_2
def f_X6_takeForcedOptions_58 (n : Nat) (q1 : Nat) (x3 : Int32) (x4 : Int32) (x5 : Int32) (k4 : St → Int32 → Int32 → Option (Int32 × St)) (k19 : St → Int32 → Int32 → Option (Int32 × St)) (k58 : St → Int32 → Int32 → Option (Int32 × St)) (S : St) (x2 : Int32) (x6 : Int32) : Option (Int32 × St) :=
  if (5 : Int32) ≤ x6 then (
    bd (x4 + (1 : Int32)) fun (x4_4 : Int32) =>
    k19 S x2 x4_4
  ) else (
    if x5 = ((1 : Int32) <<< (x6 &&& 31)) then (
      if x4 < 0 ∨ 22 ≤ (x4).toNatClampNeg then none else
      bo (f_X0_take n ((50 + (x4).toNatClampNeg)) S q1 x6) fun (r_7 : Int32) (S_8 : St) =>
      if r_7 = 0 then (
        f_X6_takeForcedOptions_91 n q1 x3 x4 x5 k4 k19 k58 S_8 x2 x6
      ) else (
        bd ((1 : Int32)) fun (x2_11 : Int32) =>
        f_X6_takeForcedOptions_91 n q1 x3 x4 x5 k4 k19 k58 S_8 x2_11 x6
      )
    ) else (
      f_X6_takeForcedOptions_91 n q1 x3 x4 x5 k4 k19 k58 S x2 x6
    )
  )
def f_X6_takeForcedOptions_19 (n : Nat) (q1 : Nat) (x3 : Int32) (k4 : St → Int32 → Int32 → Option (Int32 × St)) (k19 : St → Int32 → Int32 → Option (Int32 × St)) (S : St) (x2 : Int32) (x4 : Int32) : Option (Int32 × St) :=
  if (S.1 23 3) ≤ x4 then (
    f_X6_takeForcedOptions_103 n q1  k4 S x2 x3
  ) else (
    if (22 : Int32) ≤ x4 then (
      f_X6_takeForcedOptions_103 n q1  k4 S x2 x3
    ) else (
      if x4 < 0 ∨ 22 ≤ (x4).toNatClampNeg then none else
      bo (f_X0_openOptions n ((50 + (x4).toNatClampNeg)) S q1) fun (r_15 : Int32) (S_16 : St) =>
      bd (r_15) fun (x5_18 : Int32) =>
      if x5_18 = 0 then (
        some ((0 : Int32), S_16)
      ) else (
        bd ((0 : Int32)) fun (x6_20 : Int32) =>
        fixF (fun _ _ _ => none) (f_X6_takeForcedOptions_58 n q1 x3 x4 x5_18 k4 k19) n S_16 x2 x6_20
      )
    )
  )
def f_X6_takeForcedOptions_4 (n : Nat) (q1 : Nat) (k4 : St → Int32 → Int32 → Option (Int32 × St)) (S : St) (x2 : Int32) (x3 : Int32) : Option (Int32 × St) :=
  if (22 : Int32) < x3 then (
    some ((1 : Int32), S)
  ) else (
    if x2 = 0 then (
      some ((1 : Int32), S)
    ) else (
      bd ((0 : Int32)) fun (x2_23 : Int32) =>
      bd ((0 : Int32)) fun (x4_24 : Int32) =>
      fixF (fun _ _ _ => none) (f_X6_takeForcedOptions_19 n q1 x3 k4) n S x2_23 x4_24
    )
  )
def f_X6_takeForcedOptions (n : Nat) (S : St) (q1 : Nat) : Option (Int32 × St) :=
  bd ((1 : Int32)) fun (x2_25 : Int32) =>
  bd ((0 : Int32)) fun (x3_26 : Int32) =>
  fixF (fun _ _ _ => none) (f_X6_takeForcedOptions_4 n q1  ) n S x2_25 x3_26
def f_J6_bitCount_0f7a4 (n : Nat) (S : St) (a0 : Int32) : Option (Int32 × St) :=
  bd ((a0 - ((((a0).toUInt32 >>> (((1 : Int32)).toUInt32 &&& Int32.toUInt32 31)).toInt32) &&& (1431655765 : Int32)))) fun (x0_1 : Int32) =>
  bd (((x0_1 &&& (858993459 : Int32)) + ((((x0_1).toUInt32 >>> (((2 : Int32)).toUInt32 &&& Int32.toUInt32 31)).toInt32) &&& (858993459 : Int32)))) fun (x0_2 : Int32) =>
  bd (((x0_2 + (((x0_2).toUInt32 >>> (((4 : Int32)).toUInt32 &&& Int32.toUInt32 31)).toInt32)) &&& (252645135 : Int32))) fun (x0_3 : Int32) =>
  bd ((x0_3 + (((x0_3).toUInt32 >>> (((8 : Int32)).toUInt32 &&& Int32.toUInt32 31)).toInt32))) fun (x0_4 : Int32) =>
  bd ((x0_4 + (((x0_4).toUInt32 >>> (((16 : Int32)).toUInt32 &&& Int32.toUInt32 31)).toInt32))) fun (x0_5 : Int32) =>
  some ((x0_5 &&& (63 : Int32)), S)
def f_X6_narrowestClause_61 (n : Nat) (q1 : Nat) (k8 : St → Int32 → Int32 → Int32 → Option (Int32 × St)) (S : St) (x2 : Int32) (x3 : Int32) (x4 : Int32) : Option (Int32 × St) :=
  bd (x4 + (1 : Int32)) fun (x4_1 : Int32) =>
  k8 S x2 x3 x4_1
def f_X6_narrowestClause_8 (n : Nat) (q1 : Nat) (k8 : St → Int32 → Int32 → Int32 → Option (Int32 × St)) (S : St) (x2 : Int32) (x3 : Int32) (x4 : Int32) : Option (Int32 × St) :=
  if (S.1 23 3) ≤ x4 then (
    some (x2, S)
  ) else (
    if (22 : Int32) ≤ x4 then (
      some (x2, S)
    ) else (
      if x4 < 0 ∨ 22 ≤ (x4).toNatClampNeg then none else
      bo (f_X0_openOptions n ((50 + (x4).toNatClampNeg)) S q1) fun (r_5 : Int32) (S_6 : St) =>
      bd (r_5) fun (x5_8 : Int32) =>
      if x5_8 = (-1 : Int32) then (
        f_X6_narrowestClause_61 n q1  k8 S_6 x2 x3 x4
      ) else (
        bo (f_J6_bitCount_0f7a4 n S_6 x5_8) fun (r_10 : Int32) (S_11 : St) =>
        if x3 ≤ r_10 then (
          f_X6_narrowestClause_61 n q1  k8 S_11 x2 x3 x4
        ) else (
          bo (f_J6_bitCount_0f7a4 n S_11 x5_8) fun (r_14 : Int32) (S_15 : St) =>
          bd (r_14) fun (x3_17 : Int32) =>
          bd (x4) fun (x2_18 : Int32) =>
          f_X6_narrowestClause_61 n q1  k8 S_15 x2_18 x3_17 x4
        )
      )
    )
  )
def f_X6_narrowestClause (n : Nat) (S : St) (q1 : Nat) : Option (Int32 × St) :=
  bd ((-1 : Int32)) fun (x2_19 : Int32) =>
  bd ((6 : Int32)) fun (x3_20 : Int32) =>
  bd ((0 : Int32)) fun (x4_21 : Int32) =>
  fixF (fun _ _ _ _ => none) (f_X6_narrowestClause_8 n q1  ) n S x2_19 x3_20 x4_21
def f_X6_search_146 (n : Nat) (kr : St → Int32 → Option (Unit × St)) (x1 : Int32) (q2 : Nat) (x3 : Int32) (x4 : Int32) (k80 : St → Int32 → Option (Unit × St)) (S : St) (x5 : Int32) : Option (Unit × St) :=
  bd (x5 + (1 : Int32)) fun (x5_1 : Int32) =>
  k80 S x5_1
def f_X6_search_80 (n : Nat) (kr : St → Int32 → Option (Unit × St)) (x1 : Int32) (q2 : Nat) (x3 : Int32) (x4 : Int32) (k80 : St → Int32 → Option (Unit × St)) (S : St) (x5 : Int32) : Option (Unit × St) :=
  if (5 : Int32) ≤ x5 then (
    some ((), S)
  ) else (
    if (23 : Int32) ≤ (x1 + (1 : Int32)) then (
      some ((), S)
    ) else (
      if ((x4 >>> (x5 &&& 31)) &&& (1 : Int32)) = (1 : Int32) then (
        if (x1 + (1 : Int32)) < 0 ∨ 23 ≤ ((x1 + (1 : Int32))).toNatClampNeg then none else
        bo (f_X1_copyFrom n ((72 + ((x1 + (1 : Int32))).toNatClampNeg)) S q2) fun (_ : Unit) (S_7 : St) =>
        if x3 < 0 ∨ 22 ≤ (x3).toNatClampNeg then none else
        if (x1 + (1 : Int32)) < 0 ∨ 23 ≤ ((x1 + (1 : Int32))).toNatClampNeg then none else
        bo (f_X0_take n ((50 + (x3).toNatClampNeg)) S_7 ((72 + ((x1 + (1 : Int32))).toNatClampNeg)) x5) fun (r_11 : Int32) (S_12 : St) =>
        if r_11 = 0 then (
          f_X6_search_146 n kr x1 q2 x3 x4 k80 S_12 x5
        ) else (
          bo (kr S_12 ((x1 + (1 : Int32)))) fun (_ : Unit) (S_16 : St) =>
          f_X6_search_146 n kr x1 q2 x3 x4 k80 S_16 x5
        )
      ) else (
        f_X6_search_146 n kr x1 q2 x3 x4 k80 S x5
      )
    )
  )
def f_X6_search_51 (n : Nat) (kr : St → Int32 → Option (Unit × St)) (S : St) (q2 : Nat) : Option (Unit × St) :=
  bo (f_X1_copyFrom n 95 S q2) fun (_ : Unit) (S_19 : St) =>
  bd (sI S_19 23 7 (1 : Int32)) fun (S_21 : St) =>
  some ((), S_21)
def f_X6_search (n : Nat) (kr : St → Int32 → Option (Unit × St)) (S : St) (a1 : Int32) : Option (Unit × St) :=
  if a1 < 0 then (
    some ((), S)
  ) else (
    if a1 < (23 : Int32) then (
      if a1 < 0 ∨ 23 ≤ (a1).toNatClampNeg then none else
      bd ((72 + (a1).toNatClampNeg)) fun (q2_25 : Nat) =>
      bo (f_X6_demandsMore n S q2_25) fun (r_26 : Int32) (S_27 : St) =>
      if r_26 = 0 then (
        some ((), S_27)
      ) else (
        bo (f_X6_takeForcedOptions n S_27 q2_25) fun (r_30 : Int32) (S_31 : St) =>
        if r_30 = 0 then (
          some ((), S_31)
        ) else (
          bo (f_X6_narrowestClause n S_31 q2_25) fun (r_34 : Int32) (S_35 : St) =>
          bd (r_34) fun (x3_37 : Int32) =>
          if x3_37 < 0 then (
            f_X6_search_51 n kr   S_35 q2_25
          ) else (
            if x3_37 < (22 : Int32) then (
              if x3_37 < 0 ∨ 22 ≤ (x3_37).toNatClampNeg then none else
              bo (f_X0_openOptions n ((50 + (x3_37).toNatClampNeg)) S_35 q2_25) fun (r_41 : Int32) (S_42 : St) =>
              bd (r_41) fun (x4_44 : Int32) =>
              bd ((0 : Int32)) fun (x5_45 : Int32) =>
              fixF (fun _ _ => none) (f_X6_search_80 n kr a1 q2_25 x3_37 x4_44 ) n S_42 x5_45
            ) else (
              f_X6_search_51 n kr   S_35 q2_25
            )
          )
        )
      )
    ) else (
      some ((), S)
    )
  )
def f_X6_hasSolution (n : Nat) (S : St) : Option (Int32 × St) :=
  if (S.1 23 6) = 0 then (
    bo (fixF (fun _ _ => none) (f_X6_search n) 24 S (0 : Int32)) fun (_ : Unit) (S_4 : St) =>
    if ¬ ((S_4.1 23 7) = 0 ∨ (S_4.1 23 7) = 1) then none else
    some ((S_4.1 23 7), S_4)
  ) else (
    if ¬ ((S.1 23 7) = 0 ∨ (S.1 23 7) = 1) then none else
    some ((S.1 23 7), S)
  )
def f_X6_foundEqual (n : Nat) (S : St) (a1 : Int32) (a2 : Int32) : Option (Int32 × St) :=
  bo (f_X1_areEqual n 95 S a1 a2) fun (r_1 : Int32) (S_2 : St) =>
  if ¬ (r_1 = 0 ∨ r_1 = 1) then none else
  some (r_1, S_2)
def f_X4_pairsTiedWith_66 (n : Nat) (k30 : St → Int32 → Int32 → Option (Int32 × St)) (S : St) (x3 : Int32) (x4 : Int32) : Option (Int32 × St) :=
  bd (x4 + (1 : Int32)) fun (x4_1 : Int32) =>
  k30 S x3 x4_1
def f_X4_pairsTiedWith_30 (n : Nat) (k30 : St → Int32 → Int32 → Option (Int32 × St)) (S : St) (x3 : Int32) (x4 : Int32) : Option (Int32 × St) :=
  if (10 : Int32) ≤ x4 then (
    some (x3, S)
  ) else (
    if x4 < 0 ∨ 10 ≤ (x4).toNatClampNeg then none else
    if x4 < 0 ∨ 10 ≤ (x4).toNatClampNeg then none else
    bo (f_X6_foundEqual n S ((loF (x4).toNatClampNeg)) ((upF (x4).toNatClampNeg))) fun (r_5 : Int32) (S_6 : St) =>
    if r_5 = 0 then (
      f_X4_pairsTiedWith_66 n  k30 S_6 x3 x4
    ) else (
      bd ((x3 ||| ((1 : Int32) <<< (x4 &&& 31)))) fun (x3_9 : Int32) =>
      f_X4_pairsTiedWith_66 n  k30 S_6 x3_9 x4
    )
  )
def f_X4_pairsTiedWith (n : Nat) (S : St) (a1 : Int32) (a2 : Int32) : Option (Int32 × St) :=
  bo (f_X6_load n S a2) fun (_ : Unit) (S_11 : St) =>
  bo (f_X4_demandDifferentNames n S_11 a1) fun (_ : Unit) (S_14 : St) =>
  bo (f_X6_hasSolution n S_14 ) fun (r_16 : Int32) (S_17 : St) =>
  if r_16 = 0 then (
    some ((-1 : Int32), S_17)
  ) else (
    bd ((0 : Int32)) fun (x3_20 : Int32) =>
    bd ((0 : Int32)) fun (x4_21 : Int32) =>
    fixF (fun _ _ _ => none) (f_X4_pairsTiedWith_30 n  ) n S_17 x3_20 x4_21
  )
def f_X4_areTied (n : Nat) (S : St) (a1 : Int32) (a2 : Int32) : Option (Int32 × St) :=
  if a1 < 0 ∨ 10 ≤ (a1).toNatClampNeg then none else
  if (S.1 27 (a1).toNatClampNeg) = (-1 : Int32) then (
    some ((0 : Int32), S)
  ) else (
    if a2 < 0 ∨ 10 ≤ (a2).toNatClampNeg then none else
    if (S.1 27 (a2).toNatClampNeg) = (-1 : Int32) then (
      some ((0 : Int32), S)
    ) else (
      if a1 < 0 ∨ 10 ≤ (a1).toNatClampNeg then none else
      if (((S.1 27 (a1).toNatClampNeg) >>> (a2 &&& 31)) &&& (1 : Int32)) = (1 : Int32) then (
        if a2 < 0 ∨ 10 ≤ (a2).toNatClampNeg then none else
        if (((S.1 27 (a2).toNatClampNeg) >>> (a1 &&& 31)) &&& (1 : Int32)) = (1 : Int32) then (
          some ((1 : Int32), S)
        ) else (
          some ((0 : Int32), S)
        )
      ) else (
        some ((0 : Int32), S)
      )
    )
  )
def f_X4_oneIsEqual (n : Nat) (S : St) (a1 : Int32) (a2 : Int32) (a3 : Int32) : Option (Int32 × St) :=
  bo (f_X6_load n S a3) fun (_ : Unit) (S_2 : St) =>
  bo (f_X4_demandDifferentNames n S_2 a1) fun (_ : Unit) (S_5 : St) =>
  bo (f_X4_demandDifferentNames n S_5 a2) fun (_ : Unit) (S_8 : St) =>
  bo (f_X6_hasSolution n S_8 ) fun (r_10 : Int32) (S_11 : St) =>
  if r_10 = 0 then (
    some ((1 : Int32), S_11)
  ) else (
    some ((0 : Int32), S_11)
  )
def f_X4_asAnswerOf (n : Nat) (S : St) (a0 : Int32) : Option (Int32 × St) :=
  if a0 < 0 then (
    some ((-2000000001 : Int32), S)
  ) else (
    if (10 : Int32) ≤ a0 then (
      some ((-2000000001 : Int32), S)
    ) else (
      if a0 < 0 ∨ 10 ≤ (a0).toNatClampNeg then none else
      if a0 < 0 ∨ 10 ≤ (a0).toNatClampNeg then none else
      some ((((10 : Int32) * (loF (a0).toNatClampNeg)) + (upF (a0).toNatClampNeg)), S)
    )
  )
def f_X4_find_115 (n : Nat) (x1 : Int32) (k40 : St → Int32 → Option (Unit × St)) (S : St) (x2 : Int32) : Option (Unit × St) :=
  bd (x2 + (1 : Int32)) fun (x2_1 : Int32) =>
  k40 S x2_1
def f_X4_find_109 (n : Nat) (x1 : Int32) (x2 : Int32) (k40 : St → Int32 → Option (Unit × St)) (k59 : St → Int32 → Option (Unit × St)) (S : St) (x3 : Int32) : Option (Unit × St) :=
  bd (x3 + (1 : Int32)) fun (x3_2 : Int32) =>
  k59 S x3_2
def f_X4_find_59 (n : Nat) (x1 : Int32) (x2 : Int32) (k40 : St → Int32 → Option (Unit × St)) (k59 : St → Int32 → Option (Unit × St)) (S : St) (x3 : Int32) : Option (Unit × St) :=
  if (10 : Int32) ≤ x3 then (
    f_X4_find_115 n x1 k40 S x2
  ) else (
    if (S.1 26 2) = (-2000000001 : Int32) then (
      bo (f_X4_areTied n S x2 x3) fun (r_5 : Int32) (S_6 : St) =>
      if r_5 = 0 then (
        f_X4_find_109 n x1 x2 k40 k59 S_6 x3
      ) else (
        bo (f_X4_oneIsEqual n S_6 x2 x3 x1) fun (r_9 : Int32) (S_10 : St) =>
        if r_9 = 0 then (
          f_X4_find_109 n x1 x2 k40 k59 S_10 x3
        ) else (
          bo (f_X4_asAnswerOf n S_10 x2) fun (r_13 : Int32) (S_14 : St) =>
          bd (sI S_14 26 2 r_13) fun (S_16 : St) =>
          bo (f_X4_asAnswerOf n S_16 x3) fun (r_17 : Int32) (S_18 : St) =>
          bd (sI S_18 26 3 r_17) fun (S_20 : St) =>
          f_X4_find_109 n x1 x2 k40 k59 S_20 x3
        )
      )
    ) else (
      f_X4_find_115 n x1 k40 S x2
    )
  )
def f_X4_find_40 (n : Nat) (x1 : Int32) (k40 : St → Int32 → Option (Unit × St)) (S : St) (x2 : Int32) : Option (Unit × St) :=
  if (10 : Int32) ≤ x2 then (
    some ((), S)
  ) else (
    if (S.1 26 2) = (-2000000001 : Int32) then (
      bd ((x2 + (1 : Int32))) fun (x3_23 : Int32) =>
      fixF (fun _ _ => none) (f_X4_find_59 n x1 x2 k40) n S x3_23
    ) else (
      some ((), S)
    )
  )
def f_X4_find_14 (n : Nat) (x1 : Int32) (k14 : St → Int32 → Option (Unit × St)) (S : St) (x2 : Int32) : Option (Unit × St) :=
  if (10 : Int32) ≤ x2 then (
    bd ((0 : Int32)) fun (x2_25 : Int32) =>
    fixF (fun _ _ => none) (f_X4_find_40 n x1 ) n S x2_25
  ) else (
    bo (f_X4_pairsTiedWith n S x2 x1) fun (r_26 : Int32) (S_27 : St) =>
    if x2 < 0 ∨ 10 ≤ (x2).toNatClampNeg then none else
    bd (sI S_27 27 (x2).toNatClampNeg r_26) fun (S_30 : St) =>
    bd (x2 + (1 : Int32)) fun (x2_31 : Int32) =>
    k14 S_30 x2_31
  )
def f_X4_find (n : Nat) (S : St) (a1 : Int32) : Option (Unit × St) :=
  bd (sI S 26 2 (-2000000001 : Int32)) fun (S_32 : St) =>
  bd (sI S_32 26 3 (-2000000001 : Int32)) fun (S_33 : St) =>
  bd ((0 : Int32)) fun (x2_34 : Int32) =>
  fixF (fun _ _ => none) (f_X4_find_14 n a1 ) n S_33 x2_34
def f_X5_write (n : Nat) (S : St) (a1 : Int32) : Option (Int32 × St) :=
  if (S.1 2 4) < 0 then (
    some ((0 : Int32), S)
  ) else (
    if (S.1 2 4) < (40 : Int32) then (
      if (S.1 2 4) < 0 ∨ 40 ≤ ((S.1 2 4)).toNatClampNeg then none else
      bd (sI S 4 ((S.1 2 4)).toNatClampNeg a1) fun (S_4 : St) =>
      bd (sI S_4 2 4 ((S_4.1 2 4) + (1 : Int32))) fun (S_5 : St) =>
      some ((1 : Int32), S_5)
    ) else (
      some ((0 : Int32), S)
    )
  )
def f_X5_beginsTerm_75 (n : Nat) (S : St) (t1 : Int32) (t2 : Int32) : Option (Int32 × St) :=
  if t1 < 0 ∨ 40 ≤ (t1).toNatClampNeg then none else
  bd (sI S 3 (t1).toNatClampNeg t2) fun (S_2 : St) =>
  bd (sI S_2 2 2 ((S_2.1 2 2) + (1 : Int32))) fun (S_3 : St) =>
  bd (sI S_3 2 0 (1 : Int32)) fun (S_4 : St) =>
  some ((1 : Int32), S_4)
def f_X5_beginsTerm_38 (n : Nat) (S : St) (x1 : Int32) : Option (Int32 × St) :=
  if (S.1 2 2) < 0 then (
    some ((0 : Int32), S)
  ) else (
    if (S.1 2 2) < (40 : Int32) then (
      if x1 = (102 : Int32) then (
        f_X5_beginsTerm_75 n   S ((S.1 2 2)) ((0 : Int32))
      ) else (
        f_X5_beginsTerm_75 n   S ((S.1 2 2)) ((1 : Int32))
      )
    ) else (
      some ((0 : Int32), S)
    )
  )
def f_X5_beginsTerm_26 (n : Nat) (S : St) (x1 : Int32) : Option (Int32 × St) :=
  if x1 = (102 : Int32) then (
    f_X5_beginsTerm_38 n   S x1
  ) else (
    if x1 = (103 : Int32) then (
      f_X5_beginsTerm_38 n   S x1
    ) else (
      some ((0 : Int32), S)
    )
  )
def f_X5_beginsTerm (n : Nat) (S : St) (a1 : Int32) : Option (Int32 × St) :=
  if a1 < (97 : Int32) then (
    f_X5_beginsTerm_26 n   S a1
  ) else (
    if (101 : Int32) < a1 then (
      f_X5_beginsTerm_26 n   S a1
    ) else (
      bd (sI S 2 0 (2 : Int32)) fun (S_12 : St) =>
      bo (f_X5_write n S_12 ((a1 - (97 : Int32)))) fun (r_13 : Int32) (S_14 : St) =>
      if ¬ (r_13 = 0 ∨ r_13 = 1) then none else
      some (r_13, S_14)
    )
  )
def f_X5_goesOnInBrackets_92 (n : Nat) (S : St) (t1 : Int32) : Option (Int32 × St) :=
  bo (f_X5_write n S t1) fun (r_1 : Int32) (S_2 : St) =>
  if r_1 = 0 then (
    some ((0 : Int32), S_2)
  ) else (
    some ((1 : Int32), S_2)
  )
def f_X5_goesOnInBrackets (n : Nat) (S : St) (a1 : Int32) : Option (Int32 × St) :=
  if (S.1 2 2) < (1 : Int32) then (
    some ((0 : Int32), S)
  ) else (
    if (S.1 2 2) ≤ (40 : Int32) then (
      if ((S.1 2 2) - (1 : Int32)) < 0 ∨ 40 ≤ (((S.1 2 2) - (1 : Int32))).toNatClampNeg then none else
      bd ((S.1 3 (((S.1 2 2) - (1 : Int32))).toNatClampNeg)) fun (x2_8 : Int32) =>
      if x2_8 = (1 : Int32) then (
        if ((S.1 2 2) - (1 : Int32)) < 0 ∨ 40 ≤ (((S.1 2 2) - (1 : Int32))).toNatClampNeg then none else
        bd (sI S 3 (((S.1 2 2) - (1 : Int32))).toNatClampNeg (2 : Int32)) fun (S_14 : St) =>
        bd (sI S_14 2 0 (0 : Int32)) fun (S_15 : St) =>
        if a1 = (44 : Int32) then (
          some ((1 : Int32), S_15)
        ) else (
          some ((0 : Int32), S_15)
        )
      ) else (
        bd (sI S 2 2 ((S.1 2 2) - (1 : Int32))) fun (S_10 : St) =>
        if a1 = (41 : Int32) then (
          if x2_8 = 0 then (
            f_X5_goesOnInBrackets_92 n   S_10 ((5 : Int32))
          ) else (
            f_X5_goesOnInBrackets_92 n   S_10 ((6 : Int32))
          )
        ) else (
          some ((0 : Int32), S_10)
        )
      )
    ) else (
      some ((0 : Int32), S)
    )
  )
def f_X5_kindOfSign (n : Nat) (S : St) (a0 : Int32) : Option (Int32 × St) :=
  if a0 = (61 : Int32) then (
    some ((0 : Int32), S)
  ) else (
    if a0 = (35 : Int32) then (
      some ((1 : Int32), S)
    ) else (
      if a0 = (60 : Int32) then (
        some ((2 : Int32), S)
      ) else (
        some ((-1 : Int32), S)
      )
    )
  )
def f_X5_goesOnOutside_75 (n : Nat) (S : St) : Option (Int32 × St) :=
  some ((1 : Int32), S)
def f_X5_goesOnOutside_47 (n : Nat) (S : St) (x1 : Int32) (t1 : Int32) : Option (Int32 × St) :=
  if ¬ (t1 = 0 ∨ t1 = 1) then none else
  bd (sI S 2 6 t1) fun (S_1 : St) =>
  bd (sI S_1 2 0 (3 : Int32)) fun (S_3 : St) =>
  if (S_3.1 2 5) = (2 : Int32) then (
    if x1 = (43 : Int32) then (
      f_X5_goesOnOutside_75 n   S_3 
    ) else (
      if x1 = (45 : Int32) then (
        f_X5_goesOnOutside_75 n   S_3 
      ) else (
        some ((0 : Int32), S_3)
      )
    )
  ) else (
    some ((0 : Int32), S_3)
  )
def f_X5_goesOnOutside (n : Nat) (S : St) (a1 : Int32) : Option (Int32 × St) :=
  if (S.1 2 5) = (-1 : Int32) then (
    bo (f_X5_kindOfSign n S a1) fun (r_9 : Int32) (S_10 : St) =>
    bd (sI S_10 2 5 r_9) fun (S_12 : St) =>
    bd (sI S_12 2 0 (0 : Int32)) fun (S_13 : St) =>
    if (S_13.1 2 5) = (-1 : Int32) then (
      some ((0 : Int32), S_13)
    ) else (
      some ((1 : Int32), S_13)
    )
  ) else (
    if a1 = (45 : Int32) then (
      f_X5_goesOnOutside_47 n   S a1 ((1 : Int32))
    ) else (
      f_X5_goesOnOutside_47 n   S a1 ((0 : Int32))
    )
  )
def f_X5_goesOnInNumber_15 (n : Nat) (S : St) (x1 : Int32) (t0 : Int32) : Option (Int32 × St) :=
  bd (t0) fun (x2_1 : Int32) =>
  if x1 < x2_1 then (
    some ((0 : Int32), S)
  ) else (
    if x1 ≤ (57 : Int32) then (
      bd (sI S 2 7 (((10 : Int32) * (S.1 2 7)) + (x1 - (48 : Int32)))) fun (S_4 : St) =>
      bd (sI S_4 2 0 (4 : Int32)) fun (S_5 : St) =>
      if (999999 : Int32) < (S_5.1 2 7) then (
        some ((0 : Int32), S_5)
      ) else (
        some ((1 : Int32), S_5)
      )
    ) else (
      some ((0 : Int32), S)
    )
  )
def f_X5_goesOnInNumber (n : Nat) (S : St) (a1 : Int32) : Option (Int32 × St) :=
  if (S.1 2 0) = (3 : Int32) then (
    f_X5_goesOnInNumber_15 n   S a1 ((49 : Int32))
  ) else (
    f_X5_goesOnInNumber_15 n   S a1 ((48 : Int32))
  )
def f_X5_goesOnWith (n : Nat) (S : St) (a1 : Int32) : Option (Int32 × St) :=
  if (S.1 2 0) = (0 : Int32) then (
    bo (f_X5_beginsTerm n S a1) fun (r_2 : Int32) (S_3 : St) =>
    if ¬ (r_2 = 0 ∨ r_2 = 1) then none else
    some (r_2, S_3)
  ) else (
  if (S.1 2 0) = (1 : Int32) then (
    bd (sI S 2 0 (0 : Int32)) fun (S_7 : St) =>
    if a1 = (40 : Int32) then (
      some ((1 : Int32), S_7)
    ) else (
      some ((0 : Int32), S_7)
    )
  ) else (
  if (S.1 2 0) = (2 : Int32) then (
    if (S.1 2 2) ≤ 0 then (
      bo (f_X5_goesOnOutside n S a1) fun (r_11 : Int32) (S_12 : St) =>
      if ¬ (r_11 = 0 ∨ r_11 = 1) then none else
      some (r_11, S_12)
    ) else (
      bo (f_X5_goesOnInBrackets n S a1) fun (r_15 : Int32) (S_16 : St) =>
      if ¬ (r_15 = 0 ∨ r_15 = 1) then none else
      some (r_15, S_16)
    )
  ) else (
    bo (f_X5_goesOnInNumber n S a1) fun (r_19 : Int32) (S_20 : St) =>
    if ¬ (r_19 = 0 ∨ r_19 = 1) then none else
    some (r_19, S_20)
  )))
def f_X5_firstFault_32 (n : Nat) (x2 : Int32) (k32 : St → Int32 → Option (Int32 × St)) (S : St) (x3 : Int32) : Option (Int32 × St) :=
  if x2 ≤ x3 then (
    some (x2, S)
  ) else (
    if (Int32.ofNat 40) ≤ x3 then (
      some (x2, S)
    ) else (
      if x3 < 0 ∨ 40 ≤ (x3).toNatClampNeg then none else
      bo (f_X5_goesOnWith n S ((S.1 1 (x3).toNatClampNeg))) fun (r_4 : Int32) (S_5 : St) =>
      if r_4 = 0 then (
        some (x3, S_5)
      ) else (
        bd (x3 + (1 : Int32)) fun (x3_8 : Int32) =>
        k32 S_5 x3_8
      )
    )
  )
def f_X5_firstFault (n : Nat) (S : St) (a2 : Int32) : Option (Int32 × St) :=
  bd (sI S 2 0 (0 : Int32)) fun (S_9 : St) =>
  bd (sI S_9 2 2 (0 : Int32)) fun (S_10 : St) =>
  bd (sI S_10 2 4 (0 : Int32)) fun (S_11 : St) =>
  bd (sI S_11 2 5 (-1 : Int32)) fun (S_12 : St) =>
  bd (sI S_12 2 6 (0 : Int32)) fun (S_13 : St) =>
  bd (sI S_13 2 7 (0 : Int32)) fun (S_14 : St) =>
  bd ((0 : Int32)) fun (x3_15 : Int32) =>
  fixF (fun _ _ => none) (f_X5_firstFault_32 n a2 ) n S_14 x3_15
def f_X5_isComplete_41 (n : Nat) (S : St) : Option (Int32 × St) :=
  some ((1 : Int32), S)
def f_X5_isComplete_28 (n : Nat) (S : St) (t0 : Int32) : Option (Int32 × St) :=
  bd (t0) fun (x1_1 : Int32) =>
  if x1_1 = 0 then (
    if (S.1 2 0) = (4 : Int32) then (
      f_X5_isComplete_41 n   S 
    ) else (
      some ((0 : Int32), S)
    )
  ) else (
    f_X5_isComplete_41 n   S 
  )
def f_X5_isComplete_27 (n : Nat) (S : St) : Option (Int32 × St) :=
  f_X5_isComplete_28 n   S ((0 : Int32))
def f_X5_isComplete (n : Nat) (S : St) : Option (Int32 × St) :=
  if (S.1 2 0) = (2 : Int32) then (
    if (S.1 2 2) = 0 then (
      if (S.1 2 5) = (-1 : Int32) then (
        f_X5_isComplete_27 n   S 
      ) else (
        f_X5_isComplete_28 n   S ((1 : Int32))
      )
    ) else (
      f_X5_isComplete_27 n   S 
    )
  ) else (
    f_X5_isComplete_27 n   S 
  )
def f_X5_kind (n : Nat) (S : St) : Option (Int32 × St) :=
  some ((S.1 2 5), S)
def f_X5_number (n : Nat) (S : St) : Option (Int32 × St) :=
  if (S.1 2 6) = 0 then (
    some ((S.1 2 7), S)
  ) else (
    some ((-(S.1 2 7)), S)
  )
def f_X5_left (n : Nat) (S : St) : Option (Int32 × St) :=
  if (S.1 2 9) = (2 : Int32) then (
    if (0 : Int32) < 0 ∨ 40 ≤ ((0 : Int32)).toNatClampNeg then none else
    some ((S.1 5 ((0 : Int32)).toNatClampNeg), S)
  ) else (
    some ((-2000000001 : Int32), S)
  )
def f_X5_right (n : Nat) (S : St) : Option (Int32 × St) :=
  if (S.1 2 9) = (2 : Int32) then (
    if (1 : Int32) < 0 ∨ 40 ≤ ((1 : Int32)).toNatClampNeg then none else
    some ((S.1 5 ((1 : Int32)).toNatClampNeg), S)
  ) else (
    some ((-2000000001 : Int32), S)
  )
def f_X5_takeBuilt (n : Nat) (S : St) : Option (Int32 × St) :=
  if (S.1 2 9) < (1 : Int32) then (
    some ((-2000000001 : Int32), S)
  ) else (
    if (S.1 2 9) ≤ (40 : Int32) then (
      bd (sI S 2 9 ((S.1 2 9) - (1 : Int32))) fun (S_3 : St) =>
      if (S_3.1 2 9) < 0 ∨ 40 ≤ ((S_3.1 2 9)).toNatClampNeg then none else
      some ((S_3.1 5 ((S_3.1 2 9)).toNatClampNeg), S_3)
    ) else (
      some ((-2000000001 : Int32), S)
    )
  )
def f_X7_lengthOf (n : Nat) (q : Nat) (S : St) (a1 : Int32) : Option (Int32 × St) :=
  bo (f_X7_has n q S a1) fun (r_1 : Int32) (S_2 : St) =>
  if r_1 = 0 then (
    some ((0 : Int32), S_2)
  ) else (
    if a1 < 0 ∨ 10 ≤ (a1).toNatClampNeg then none else
    some ((S_2.1 (q + 4) (a1).toNatClampNeg), S_2)
  )
def f_X7_numberFor_147 (n : Nat) (q : Nat) (S : St) (t1 : Int32) (t2 : Int32) : Option (Int32 × St) :=
  if t1 < 0 ∨ 10 ≤ (t1).toNatClampNeg then none else
  bd (sI S (q + 4) (t1).toNatClampNeg t2) fun (S_2 : St) =>
  bd (sI S_2 q 4 ((S_2.1 q 4) + (1 : Int32))) fun (S_3 : St) =>
  some (((S_3.1 q 4) - (1 : Int32)), S_3)
def f_X7_numberFor_61 (n : Nat) (q : Nat) (S : St) (x1 : Int32) (x2 : Int32) (x3 : Int32) : Option (Int32 × St) :=
  if (S.1 q 4) < (5 : Int32) then (
    some ((-2000000001 : Int32), S)
  ) else (
    if (S.1 q 4) < (10 : Int32) then (
      if (S.1 q 4) < 0 ∨ 10 ≤ ((S.1 q 4)).toNatClampNeg then none else
      bd (sI S (q + 1) ((S.1 q 4)).toNatClampNeg x1) fun (S_7 : St) =>
      if (S_7.1 q 4) < 0 ∨ 10 ≤ ((S_7.1 q 4)).toNatClampNeg then none else
      bd (sI S_7 (q + 2) ((S_7.1 q 4)).toNatClampNeg x2) fun (S_9 : St) =>
      if (S_9.1 q 4) < 0 ∨ 10 ≤ ((S_9.1 q 4)).toNatClampNeg then none else
      bd (sI S_9 (q + 3) ((S_9.1 q 4)).toNatClampNeg x3) fun (S_11 : St) =>
      if x1 = (1 : Int32) then (
        bo (f_X7_lengthOf n q S_11 x2) fun (r_19 : Int32) (S_20 : St) =>
        f_X7_numberFor_147 n q   S_20 ((S_11.1 q 4)) ((r_19 + (3 : Int32)))
      ) else (
        bo (f_X7_lengthOf n q S_11 x2) fun (r_13 : Int32) (S_14 : St) =>
        bo (f_X7_lengthOf n q S_14 x3) fun (r_16 : Int32) (S_17 : St) =>
        f_X7_numberFor_147 n q   S_17 ((S_11.1 q 4)) (((r_13 + r_16) + (4 : Int32)))
      )
    ) else (
      some ((-2000000001 : Int32), S)
    )
  )
def f_X7_numberFor_55 (n : Nat) (q : Nat) (x1 : Int32) (x2 : Int32) (x3 : Int32) (k3 : St → Int32 → Option (Int32 × St)) (S : St) (x4 : Int32) : Option (Int32 × St) :=
  bd (x4 + (1 : Int32)) fun (x4_22 : Int32) =>
  k3 S x4_22
def f_X7_numberFor_3 (n : Nat) (q : Nat) (x1 : Int32) (x2 : Int32) (x3 : Int32) (k3 : St → Int32 → Option (Int32 × St)) (S : St) (x4 : Int32) : Option (Int32 × St) :=
  if (S.1 q 4) ≤ x4 then (
    f_X7_numberFor_61 n q   S x1 x2 x3
  ) else (
    if (10 : Int32) ≤ x4 then (
      f_X7_numberFor_61 n q   S x1 x2 x3
    ) else (
      if x4 < 0 ∨ 10 ≤ (x4).toNatClampNeg then none else
      if (S.1 (q + 1) (x4).toNatClampNeg) = x1 then (
        if x4 < 0 ∨ 10 ≤ (x4).toNatClampNeg then none else
        if (S.1 (q + 2) (x4).toNatClampNeg) = x2 then (
          if x4 < 0 ∨ 10 ≤ (x4).toNatClampNeg then none else
          if (S.1 (q + 3) (x4).toNatClampNeg) = x3 then (
            some (x4, S)
          ) else (
            f_X7_numberFor_55 n q x1 x2 x3 k3 S x4
          )
        ) else (
          f_X7_numberFor_55 n q x1 x2 x3 k3 S x4
        )
      ) else (
        f_X7_numberFor_55 n q x1 x2 x3 k3 S x4
      )
    )
  )
def f_X7_numberFor (n : Nat) (q : Nat) (S : St) (a1 : Int32) (a2 : Int32) (a3 : Int32) : Option (Int32 × St) :=
  bd ((5 : Int32)) fun (x4_31 : Int32) =>
  fixF (fun _ _ => none) (f_X7_numberFor_3 n q a1 a2 a3 ) n S x4_31
def f_X5_buildIn_122 (n : Nat) (q1 : Nat) (S : St) : Option (Int32 × St) :=
  if (S.1 2 9) = (2 : Int32) then (
    some ((1 : Int32), S)
  ) else (
    some ((0 : Int32), S)
  )
def f_X5_buildIn_72 (n : Nat) (q1 : Nat) (k7 : St → Int32 → Option (Int32 × St)) (S : St) (x2 : Int32) (x3 : Int32) : Option (Int32 × St) :=
  if x3 = (-2000000001 : Int32) then (
    some ((0 : Int32), S)
  ) else (
    if (S.1 2 9) < 0 then (
      some ((0 : Int32), S)
    ) else (
      if (S.1 2 9) < (40 : Int32) then (
        if (S.1 2 9) < 0 ∨ 40 ≤ ((S.1 2 9)).toNatClampNeg then none else
        bd (sI S 5 ((S.1 2 9)).toNatClampNeg x3) fun (S_6 : St) =>
        bd (sI S_6 2 9 ((S_6.1 2 9) + (1 : Int32))) fun (S_7 : St) =>
        bd (x2 + (1 : Int32)) fun (x2_8 : Int32) =>
        k7 S_7 x2_8
      ) else (
        some ((0 : Int32), S)
      )
    )
  )
def f_X5_buildIn_7 (n : Nat) (q1 : Nat) (k7 : St → Int32 → Option (Int32 × St)) (S : St) (x2 : Int32) : Option (Int32 × St) :=
  if (S.1 2 4) ≤ x2 then (
    f_X5_buildIn_122 n q1   S 
  ) else (
    if (40 : Int32) ≤ x2 then (
      f_X5_buildIn_122 n q1   S 
    ) else (
      if x2 < 0 ∨ 40 ≤ (x2).toNatClampNeg then none else
      bd ((S.1 4 (x2).toNatClampNeg)) fun (x3_12 : Int32) =>
      if x3_12 = (5 : Int32) then (
        bo (f_X5_takeBuilt n S ) fun (r_26 : Int32) (S_27 : St) =>
        bo (f_X7_numberFor n q1 S_27 (1 : Int32) r_26 (-2000000001 : Int32)) fun (r_29 : Int32) (S_30 : St) =>
        bd (r_29) fun (x3_32 : Int32) =>
        f_X5_buildIn_72 n q1  k7 S_30 x2 x3_32
      ) else (
        if x3_12 = (6 : Int32) then (
          bo (f_X5_takeBuilt n S ) fun (r_15 : Int32) (S_16 : St) =>
          bd (r_15) fun (x4_18 : Int32) =>
          bo (f_X5_takeBuilt n S_16 ) fun (r_19 : Int32) (S_20 : St) =>
          bo (f_X7_numberFor n q1 S_20 (2 : Int32) r_19 x4_18) fun (r_22 : Int32) (S_23 : St) =>
          bd (r_22) fun (x3_25 : Int32) =>
          f_X5_buildIn_72 n q1  k7 S_23 x2 x3_25
        ) else (
          f_X5_buildIn_72 n q1  k7 S x2 x3_12
        )
      )
    )
  )
def f_X5_buildIn (n : Nat) (S : St) (q1 : Nat) : Option (Int32 × St) :=
  bd (sI S 2 9 (0 : Int32)) fun (S_33 : St) =>
  bd ((0 : Int32)) fun (x2_34 : Int32) =>
  fixF (fun _ _ => none) (f_X5_buildIn_7 n q1  ) n S_33 x2_34
def f_X7_shrinkTo (n : Nat) (q : Nat) (S : St) (a1 : Int32) : Option (Unit × St) :=
  if a1 < (5 : Int32) then (
    some ((), S)
  ) else (
    if (S.1 q 4) ≤ a1 then (
      some ((), S)
    ) else (
      bd (sI S q 4 a1) fun (S_3 : St) =>
      some ((), S_3)
    )
  )
def f_X7_copyFrom_2 (n : Nat) (q : Nat) (q1 : Nat) (k2 : St → Int32 → Option (Unit × St)) (S : St) (x2 : Int32) : Option (Unit × St) :=
  if (10 : Int32) ≤ x2 then (
    bd (sI S q 4 (S.1 q1 4)) fun (S_2 : St) =>
    some ((), S_2)
  ) else (
    if x2 < 0 ∨ 10 ≤ (x2).toNatClampNeg then none else
    if x2 < 0 ∨ 10 ≤ (x2).toNatClampNeg then none else
    bd (sI S (q + 1) (x2).toNatClampNeg (S.1 (q1 + 1) (x2).toNatClampNeg)) fun (S_5 : St) =>
    if x2 < 0 ∨ 10 ≤ (x2).toNatClampNeg then none else
    if x2 < 0 ∨ 10 ≤ (x2).toNatClampNeg then none else
    bd (sI S_5 (q + 2) (x2).toNatClampNeg (S_5.1 (q1 + 2) (x2).toNatClampNeg)) fun (S_8 : St) =>
    if x2 < 0 ∨ 10 ≤ (x2).toNatClampNeg then none else
    if x2 < 0 ∨ 10 ≤ (x2).toNatClampNeg then none else
    bd (sI S_8 (q + 3) (x2).toNatClampNeg (S_8.1 (q1 + 3) (x2).toNatClampNeg)) fun (S_11 : St) =>
    if x2 < 0 ∨ 10 ≤ (x2).toNatClampNeg then none else
    if x2 < 0 ∨ 10 ≤ (x2).toNatClampNeg then none else
    bd (sI S_11 (q + 4) (x2).toNatClampNeg (S_11.1 (q1 + 4) (x2).toNatClampNeg)) fun (S_14 : St) =>
    bd (x2 + (1 : Int32)) fun (x2_15 : Int32) =>
    k2 S_14 x2_15
  )
def f_X7_copyFrom (n : Nat) (q : Nat) (S : St) (q1 : Nat) : Option (Unit × St) :=
  bd ((0 : Int32)) fun (x2_16 : Int32) =>
  fixF (fun _ _ => none) (f_X7_copyFrom_2 n q q1  ) n S x2_16
def f_X8_letter (n : Nat) (S : St) (a1 : Int32) : Option (Int32 × St) :=
  if a1 < (32 : Int32) then (
    some ((-2000000003 : Int32), S)
  ) else (
    if a1 ≤ (126 : Int32) then (
      if (S.1 0 1) < 0 then (
        some ((-2000000005 : Int32), S)
      ) else (
        if (S.1 0 1) < (40 : Int32) then (
          if (S.1 0 1) < 0 ∨ 40 ≤ ((S.1 0 1)).toNatClampNeg then none else
          bd (sI S 1 ((S.1 0 1)).toNatClampNeg a1) fun (S_6 : St) =>
          bd (sI S_6 0 1 ((S_6.1 0 1) + (1 : Int32))) fun (S_7 : St) =>
          some ((S_7.1 0 1), S_7)
        ) else (
          some ((-2000000005 : Int32), S)
        )
      )
    ) else (
      some ((-2000000003 : Int32), S)
    )
  )
def f_X8_blank (n : Nat) (S : St) : Option (Int32 × St) :=
  bd ((S.1 0 1)) fun (x1_1 : Int32) =>
  bd (sI S 0 1 (0 : Int32)) fun (S_2 : St) =>
  some (x1_1, S_2)
def f_X8_fault (n : Nat) (S : St) : Option (Int32 × St) :=
  bo (f_X5_firstFault n S (S.1 0 1)) fun (r_1 : Int32) (S_2 : St) =>
  some (r_1, S_2)
def f_X8_forgetResults (n : Nat) (S : St) : Option (Unit × St) :=
  bd (sI S 0 12 (0 : Int32)) fun (S_1 : St) =>
  bd (sI S_1 0 13 (0 : Int32)) fun (S_2 : St) =>
  bd (sI S_2 0 15 (0 : Int32)) fun (S_3 : St) =>
  some ((), S_3)
def f_X8_add (n : Nat) (S : St) : Option (Int32 × St) :=
  bo (f_X5_firstFault n S (S.1 0 1)) fun (r_1 : Int32) (S_2 : St) =>
  if r_1 < (S_2.1 0 1) then (
    some ((-2000000004 : Int32), S_2)
  ) else (
    bo (f_X5_isComplete n S_2 ) fun (r_5 : Int32) (S_6 : St) =>
    if r_5 = 0 then (
      some ((-2000000004 : Int32), S_6)
    ) else (
      bo (f_X3_size n S_6 ) fun (r_9 : Int32) (S_10 : St) =>
      if r_9 < (10 : Int32) then (
        bo (f_X7_size n 6 S_10 ) fun (r_13 : Int32) (S_14 : St) =>
        bd (r_13) fun (x1_16 : Int32) =>
        bo (f_X5_buildIn n S_14 6) fun (r_17 : Int32) (S_18 : St) =>
        if r_17 = 0 then (
          bo (f_X7_shrinkTo n 6 S_18 x1_16) fun (_ : Unit) (S_45 : St) =>
          some ((-2000000005 : Int32), S_45)
        ) else (
          bo (f_X5_kind n S_18 ) fun (r_21 : Int32) (S_22 : St) =>
          bo (f_X5_left n S_22 ) fun (r_24 : Int32) (S_25 : St) =>
          bo (f_X5_right n S_25 ) fun (r_27 : Int32) (S_28 : St) =>
          bo (f_X5_number n S_28 ) fun (r_30 : Int32) (S_31 : St) =>
          bo (f_X3_append n S_31 r_21 r_24 r_27 r_30) fun (_ : Unit) (S_34 : St) =>
          bd (sI S_34 0 1 (0 : Int32)) fun (S_36 : St) =>
          bd (sI S_36 0 9 ((S_36.1 0 9) + (1 : Int32))) fun (S_37 : St) =>
          bo (f_X8_forgetResults n S_37 ) fun (_ : Unit) (S_39 : St) =>
          bo (f_X3_size n S_39 ) fun (r_41 : Int32) (S_42 : St) =>
          some ((r_41 - (1 : Int32)), S_42)
        )
      ) else (
        some ((-2000000005 : Int32), S_10)
      )
    )
  )
def f_X8_numberAnew_63 (n : Nat) (kr : St → Int32 → Int32 → Option (Int32 × St)) (S : St) (x1 : Int32) (x3 : Int32) (x4 : Int32) : Option (Int32 × St) :=
  bo (f_X7_kindOf n 11 S x1) fun (r_1 : Int32) (S_2 : St) =>
  bo (f_X7_numberFor n 6 S_2 r_1 x3 x4) fun (r_4 : Int32) (S_5 : St) =>
  some (r_4, S_5)
def f_X8_numberAnew (n : Nat) (kr : St → Int32 → Int32 → Option (Int32 × St)) (S : St) (a1 : Int32) (a2 : Int32) : Option (Int32 × St) :=
  if a1 < (5 : Int32) then (
    some (a1, S)
  ) else (
    if a2 ≤ (10 : Int32) then (
      bo (f_X7_firstOf n 11 S a1) fun (r_9 : Int32) (S_10 : St) =>
      bo (kr S_10 r_9 ((a2 + (1 : Int32)))) fun (r_12 : Int32) (S_13 : St) =>
      bd (r_12) fun (x3_15 : Int32) =>
      bd ((-2000000001 : Int32)) fun (x4_16 : Int32) =>
      bo (f_X7_kindOf n 11 S_13 a1) fun (r_17 : Int32) (S_18 : St) =>
      if r_17 = (2 : Int32) then (
        bo (f_X7_secondOf n 11 S_18 a1) fun (r_21 : Int32) (S_22 : St) =>
        bo (kr S_22 r_21 ((a2 + (1 : Int32)))) fun (r_24 : Int32) (S_25 : St) =>
        bd (r_24) fun (x4_27 : Int32) =>
        f_X8_numberAnew_63 n kr   S_25 a1 x3_15 x4_27
      ) else (
        f_X8_numberAnew_63 n kr   S_18 a1 x3_15 x4_16
      )
    ) else (
      some (a1, S)
    )
  )
def f_X8_numberTermsAnew_21 (n : Nat) (k21 : St → Int32 → Option (Unit × St)) (S : St) (x1 : Int32) : Option (Unit × St) :=
  bo (f_X3_size n S ) fun (r_1 : Int32) (S_2 : St) =>
  if r_1 ≤ x1 then (
    some ((), S_2)
  ) else (
    bo (f_X3_leftOf n S_2 x1) fun (r_5 : Int32) (S_6 : St) =>
    bo (fixF (fun _ _ _ => none) (f_X8_numberAnew n) 13 S_6 r_5 (0 : Int32)) fun (r_8 : Int32) (S_9 : St) =>
    bd (r_8) fun (x2_11 : Int32) =>
    bo (f_X3_rightOf n S_9 x1) fun (r_12 : Int32) (S_13 : St) =>
    bo (fixF (fun _ _ _ => none) (f_X8_numberAnew n) 13 S_13 r_12 (0 : Int32)) fun (r_15 : Int32) (S_16 : St) =>
    bd (r_15) fun (x3_18 : Int32) =>
    bo (f_X3_setTerms n S_16 x1 x2_11 x3_18) fun (_ : Unit) (S_20 : St) =>
    bd (x1 + (1 : Int32)) fun (x1_22 : Int32) =>
    k21 S_20 x1_22
  )
def f_X8_numberTermsAnew (n : Nat) (S : St) : Option (Unit × St) :=
  bo (f_X7_copyFrom n 11 S 6) fun (_ : Unit) (S_24 : St) =>
  bo (f_X7_shrinkTo n 6 S_24 (5 : Int32)) fun (_ : Unit) (S_27 : St) =>
  bd ((0 : Int32)) fun (x1_29 : Int32) =>
  fixF (fun _ _ => none) (f_X8_numberTermsAnew_21 n  ) n S_27 x1_29
def f_X8_drop (n : Nat) (S : St) (a1 : Int32) : Option (Int32 × St) :=
  bo (f_X3_has n S a1) fun (r_1 : Int32) (S_2 : St) =>
  if r_1 = 0 then (
    some ((-2000000002 : Int32), S_2)
  ) else (
    bo (f_X3_removeAt n S_2 a1) fun (_ : Unit) (S_6 : St) =>
    bo (f_X8_numberTermsAnew n S_6 ) fun (_ : Unit) (S_9 : St) =>
    bd (sI S_9 0 10 ((S_9.1 0 10) + (1 : Int32))) fun (S_11 : St) =>
    bo (f_X8_forgetResults n S_11 ) fun (_ : Unit) (S_13 : St) =>
    bo (f_X3_size n S_13 ) fun (r_15 : Int32) (S_16 : St) =>
    some (r_15, S_16)
  )
def f_X8_isGreat_16 (n : Nat) (S : St) : Option (Int32 × St) :=
  some ((1 : Int32), S)
def f_X8_isGreat (n : Nat) (S : St) (a0 : Int64) : Option (Int32 × St) :=
  if 0 < (lg_cmp a0 (2000000000 : Int64)) then (
    f_X8_isGreat_16 n   S 
  ) else (
    if 0 ≤ (lg_cmp a0 (-2000000000 : Int64)) then (
      some ((0 : Int32), S)
    ) else (
      f_X8_isGreat_16 n   S 
    )
  )
def f_X8_scale_110 (n : Nat) (x1 : Int32) (k61 : St → Int32 → Int32 → Option (Int32 × St)) (S : St) (x2 : Int32) (x3 : Int32) : Option (Int32 × St) :=
  bd (x3 + (1 : Int32)) fun (x3_1 : Int32) =>
  k61 S x2 x3_1
def f_X8_scale_61 (n : Nat) (x1 : Int32) (k61 : St → Int32 → Int32 → Option (Int32 × St)) (S : St) (x2 : Int32) (x3 : Int32) : Option (Int32 × St) :=
  bo (f_X3_size n S ) fun (r_2 : Int32) (S_3 : St) =>
  if r_2 ≤ x3 then (
    bo (f_X8_forgetResults n S_3 ) fun (_ : Unit) (S_7 : St) =>
    some (x2, S_7)
  ) else (
    bo (f_X3_numberOf n S_3 x3) fun (r_9 : Int32) (S_10 : St) =>
    bd ((r_9 * x1)) fun (x4_12 : Int32) =>
    bo (f_X3_numberOf n S_10 x3) fun (r_13 : Int32) (S_14 : St) =>
    if x4_12 = r_13 then (
      f_X8_scale_110 n x1 k61 S_14 x2 x3
    ) else (
      bo (f_X3_setNumber n S_14 x3 x4_12) fun (_ : Unit) (S_18 : St) =>
      bd (x2 + (1 : Int32)) fun (x2_20 : Int32) =>
      f_X8_scale_110 n x1 k61 S_18 x2_20 x3
    )
  )
def f_X8_scale_19 (n : Nat) (x1 : Int32) (k19 : St → Int32 → Option (Int32 × St)) (S : St) (x2 : Int32) : Option (Int32 × St) :=
  bo (f_X3_size n S ) fun (r_21 : Int32) (S_22 : St) =>
  if r_21 ≤ x2 then (
    bd ((0 : Int32)) fun (x2_25 : Int32) =>
    bd ((0 : Int32)) fun (x3_26 : Int32) =>
    fixF (fun _ _ _ => none) (f_X8_scale_61 n x1 ) n S_22 x2_25 x3_26
  ) else (
    bo (f_X3_numberOf n S_22 x2) fun (r_27 : Int32) (S_28 : St) =>
    bo (f_X8_isGreat n S_28 (((r_27).toInt64 * (x1).toInt64))) fun (r_30 : Int32) (S_31 : St) =>
    if r_30 = 0 then (
      bd (x2 + (1 : Int32)) fun (x2_34 : Int32) =>
      k19 S_31 x2_34
    ) else (
      some ((-2000000006 : Int32), S_31)
    )
  )
def f_X8_scale (n : Nat) (S : St) (a1 : Int32) : Option (Int32 × St) :=
  if a1 < (-1000 : Int32) then (
    some ((-2000000003 : Int32), S)
  ) else (
    if a1 ≤ (1000 : Int32) then (
      bd ((0 : Int32)) fun (x2_37 : Int32) =>
      fixF (fun _ _ => none) (f_X8_scale_19 n a1 ) n S x2_37
    ) else (
      some ((-2000000003 : Int32), S)
    )
  )
def f_X8_literal (n : Nat) (S : St) (a1 : Int32) (a2 : Int32) : Option (Int32 × St) :=
  bo (f_X3_has n S a1) fun (r_1 : Int32) (S_2 : St) =>
  if r_1 = 0 then (
    some ((-2000000002 : Int32), S_2)
  ) else (
    if a2 = (0 : Int32) then (
      bo (f_X3_kindOf n S_2 a1) fun (r_6 : Int32) (S_7 : St) =>
      some (r_6, S_7)
    ) else (
    if a2 = (1 : Int32) then (
      bo (f_X3_leftOf n S_2 a1) fun (r_10 : Int32) (S_11 : St) =>
      some (r_10, S_11)
    ) else (
    if a2 = (2 : Int32) then (
      bo (f_X3_rightOf n S_2 a1) fun (r_14 : Int32) (S_15 : St) =>
      some (r_14, S_15)
    ) else (
    if a2 = (3 : Int32) then (
      bo (f_X3_numberOf n S_2 a1) fun (r_18 : Int32) (S_19 : St) =>
      some (r_18, S_19)
    ) else (
      some ((-2000000003 : Int32), S_2)
    ))))
  )
def f_X8_ensureExchanged (n : Nat) (S : St) : Option (Unit × St) :=
  if (S.1 0 12) = 0 then (
    bo (f_X2_run n S ) fun (_ : Unit) (S_3 : St) =>
    bd (sI S_3 0 12 (1 : Int32)) fun (S_5 : St) =>
    some ((), S_5)
  ) else (
    some ((), S)
  )
def f_X8_term (n : Nat) (S : St) (a1 : Int32) (a2 : Int32) : Option (Int32 × St) :=
  bo (f_X7_has n 6 S a1) fun (r_1 : Int32) (S_2 : St) =>
  if r_1 = 0 then (
    some ((-2000000002 : Int32), S_2)
  ) else (
    if a2 = (0 : Int32) then (
      bo (f_X7_kindOf n 6 S_2 a1) fun (r_6 : Int32) (S_7 : St) =>
      some (r_6, S_7)
    ) else (
    if a2 = (1 : Int32) then (
      bo (f_X7_firstOf n 6 S_2 a1) fun (r_10 : Int32) (S_11 : St) =>
      some (r_10, S_11)
    ) else (
    if a2 = (2 : Int32) then (
      bo (f_X7_secondOf n 6 S_2 a1) fun (r_14 : Int32) (S_15 : St) =>
      some (r_14, S_15)
    ) else (
    if a2 = (3 : Int32) then (
      bo (f_X7_lengthOf n 6 S_2 a1) fun (r_18 : Int32) (S_19 : St) =>
      some (r_18, S_19)
    ) else (
    if a2 = (4 : Int32) then (
      bo (f_X8_ensureExchanged n S_2 ) fun (_ : Unit) (S_23 : St) =>
      bo (f_X2_smallestSame n S_23 a1) fun (r_25 : Int32) (S_26 : St) =>
      some (r_25, S_26)
    ) else (
    if a2 = (5 : Int32) then (
      bo (f_X3_howManyHave n S_2 a1) fun (r_29 : Int32) (S_30 : St) =>
      some (r_29, S_30)
    ) else (
      some ((-2000000003 : Int32), S_2)
    ))))))
  )
def f_X8_exchange (n : Nat) (S : St) (a1 : Int32) : Option (Int32 × St) :=
  if a1 < 0 then (
    some ((-2000000003 : Int32), S)
  ) else (
    if a1 ≤ (2 : Int32) then (
      bo (f_X8_ensureExchanged n S ) fun (_ : Unit) (S_4 : St) =>
      if a1 = (0 : Int32) then (
        bo (f_X2_hasConflict n S_4 ) fun (r_7 : Int32) (S_8 : St) =>
        if r_7 = 0 then (
          some ((0 : Int32), S_8)
        ) else (
          some ((1 : Int32), S_8)
        )
      ) else (
      if a1 = (1 : Int32) then (
        bo (f_X2_rounds n S_4 ) fun (r_12 : Int32) (S_13 : St) =>
        some (r_12, S_13)
      ) else (
        bo (f_X2_classes n S_4 ) fun (r_15 : Int32) (S_16 : St) =>
        some (r_15, S_16)
      ))
    ) else (
      some ((-2000000003 : Int32), S)
    )
  )
def f_X8_asAnswer (n : Nat) (S : St) (a0 : Int64) : Option (Int32 × St) :=
  if (lg_cmp a0 (1000000000000000 : Int64)) = 0 then (
    some ((-2000000001 : Int32), S)
  ) else (
    bo (f_X8_isGreat n S a0) fun (r_2 : Int32) (S_3 : St) =>
    if r_2 = 0 then (
      some ((a0).toInt32, S_3)
    ) else (
      some ((-2000000006 : Int32), S_3)
    )
  )
def f_X8_far (n : Nat) (S : St) (a1 : Int32) (a2 : Int32) : Option (Int32 × St) :=
  bo (f_X7_has n 6 S a1) fun (r_1 : Int32) (S_2 : St) =>
  if r_1 = 0 then (
    some ((-2000000002 : Int32), S_2)
  ) else (
    bo (f_X7_has n 6 S_2 a2) fun (r_5 : Int32) (S_6 : St) =>
    if r_5 = 0 then (
      some ((-2000000002 : Int32), S_6)
    ) else (
      bo (f_X8_ensureExchanged n S_6 ) fun (_ : Unit) (S_10 : St) =>
      bo (f_X2_hasConflict n S_10 ) fun (r_12 : Int32) (S_13 : St) =>
      if r_12 = 0 then (
        bo (f_X2_distance n S_13 a1 a2) fun (r_16 : Int64) (S_17 : St) =>
        bo (f_X8_asAnswer n S_17 r_16) fun (r_19 : Int32) (S_20 : St) =>
        some (r_19, S_20)
      ) else (
        some ((-2000000004 : Int32), S_13)
      )
    )
  )
def f_X8_isSolvable (n : Nat) (S : St) : Option (Int32 × St) :=
  if (S.1 0 13) = 0 then (
    bo (f_X3_all n S ) fun (r_3 : Int32) (S_4 : St) =>
    bo (f_X6_load n S_4 r_3) fun (_ : Unit) (S_7 : St) =>
    bo (f_X6_hasSolution n S_7 ) fun (r_9 : Int32) (S_10 : St) =>
    if ¬ (r_9 = 0 ∨ r_9 = 1) then none else
    bd (sI S_10 0 14 r_9) fun (S_12 : St) =>
    bd (sI S_12 0 13 (1 : Int32)) fun (S_14 : St) =>
    if ¬ ((S_14.1 0 14) = 0 ∨ (S_14.1 0 14) = 1) then none else
    some ((S_14.1 0 14), S_14)
  ) else (
    if ¬ ((S.1 0 14) = 0 ∨ (S.1 0 14) = 1) then none else
    some ((S.1 0 14), S)
  )
def f_X8_holds (n : Nat) (S : St) : Option (Int32 × St) :=
  bo (f_X8_isSolvable n S ) fun (r_1 : Int32) (S_2 : St) =>
  if r_1 = 0 then (
    some ((0 : Int32), S_2)
  ) else (
    some ((1 : Int32), S_2)
  )
def f_X8_apart (n : Nat) (S : St) (a1 : Int32) (a2 : Int32) : Option (Int32 × St) :=
  bo (f_X7_has n 6 S a1) fun (r_1 : Int32) (S_2 : St) =>
  if r_1 = 0 then (
    some ((-2000000002 : Int32), S_2)
  ) else (
    bo (f_X7_has n 6 S_2 a2) fun (r_5 : Int32) (S_6 : St) =>
    if r_5 = 0 then (
      some ((-2000000002 : Int32), S_6)
    ) else (
      bo (f_X8_isSolvable n S_6 ) fun (r_9 : Int32) (S_10 : St) =>
      if r_9 = 0 then (
        some ((-2000000004 : Int32), S_10)
      ) else (
        bo (f_X3_all n S_10 ) fun (r_13 : Int32) (S_14 : St) =>
        bo (f_X6_load n S_14 r_13) fun (_ : Unit) (S_17 : St) =>
        bo (f_X6_aimAt n S_17 a1 a2) fun (_ : Unit) (S_20 : St) =>
        bo (f_X6_hasSolution n S_20 ) fun (r_22 : Int32) (S_23 : St) =>
        if r_22 = 0 then (
          some ((-2000000004 : Int32), S_23)
        ) else (
          bo (f_X6_greatest n S_23 ) fun (r_26 : Int64) (S_27 : St) =>
          bo (f_X8_asAnswer n S_27 r_26) fun (r_29 : Int32) (S_30 : St) =>
          some (r_29, S_30)
        )
      )
    )
  )
def f_X8_implied_104 (n : Nat) (S : St) : Option (Int32 × St) :=
  bo (f_X6_hasSolution n S ) fun (r_1 : Int32) (S_2 : St) =>
  if r_1 = 0 then (
    some ((1 : Int32), S_2)
  ) else (
    some ((0 : Int32), S_2)
  )
def f_X8_implied (n : Nat) (S : St) (a1 : Int32) (a2 : Int32) (a3 : Int32) : Option (Int32 × St) :=
  bo (f_X7_has n 6 S a1) fun (r_5 : Int32) (S_6 : St) =>
  if r_5 = 0 then (
    some ((-2000000002 : Int32), S_6)
  ) else (
    bo (f_X7_has n 6 S_6 a2) fun (r_9 : Int32) (S_10 : St) =>
    if r_9 = 0 then (
      some ((-2000000002 : Int32), S_10)
    ) else (
      if a3 < 0 then (
        some ((-2000000003 : Int32), S_10)
      ) else (
        if a3 ≤ (2 : Int32) then (
          bo (f_X8_isSolvable n S_10 ) fun (r_15 : Int32) (S_16 : St) =>
          if r_15 = 0 then (
            some ((-2000000004 : Int32), S_16)
          ) else (
            bo (f_X3_all n S_16 ) fun (r_19 : Int32) (S_20 : St) =>
            bo (f_X6_load n S_20 r_19) fun (_ : Unit) (S_23 : St) =>
            if a3 = 0 then (
              bo (f_X6_demandDifferent n S_23 a1 a2) fun (_ : Unit) (S_34 : St) =>
              f_X8_implied_104 n   S_34 
            ) else (
              if a3 = (1 : Int32) then (
                bo (f_X6_demandEqual n S_23 a1 a2) fun (_ : Unit) (S_31 : St) =>
                f_X8_implied_104 n   S_31 
              ) else (
                bo (f_X6_demandAtMost n S_23 a2 a1 (-1 : Int32)) fun (_ : Unit) (S_28 : St) =>
                f_X8_implied_104 n   S_28 
              )
            )
          )
        ) else (
          some ((-2000000003 : Int32), S_10)
        )
      )
    )
  )
def f_X8_why_60 (n : Nat) (k28 : St → Int32 → Int32 → Option (Int32 × St)) (S : St) (x1 : Int32) (x2 : Int32) : Option (Int32 × St) :=
  bd (x2 + (-1 : Int32)) fun (x2_1 : Int32) =>
  k28 S x1 x2_1
def f_X8_why_28 (n : Nat) (k28 : St → Int32 → Int32 → Option (Int32 × St)) (S : St) (x1 : Int32) (x2 : Int32) : Option (Int32 × St) :=
  if x2 < 0 then (
    some (x1, S)
  ) else (
    bd ((x1 &&& (((1 : Int32) <<< (x2 &&& 31)) ^^^ (-1 : Int32)))) fun (x3_3 : Int32) =>
    bo (f_X6_load n S x3_3) fun (_ : Unit) (S_5 : St) =>
    bo (f_X6_hasSolution n S_5 ) fun (r_7 : Int32) (S_8 : St) =>
    if r_7 = 0 then (
      bd (x3_3) fun (x1_11 : Int32) =>
      f_X8_why_60 n  k28 S_8 x1_11 x2
    ) else (
      f_X8_why_60 n  k28 S_8 x1 x2
    )
  )
def f_X8_why (n : Nat) (S : St) : Option (Int32 × St) :=
  bo (f_X8_isSolvable n S ) fun (r_12 : Int32) (S_13 : St) =>
  if r_12 = 0 then (
    bo (f_X3_all n S_13 ) fun (r_16 : Int32) (S_17 : St) =>
    bd (r_16) fun (x1_19 : Int32) =>
    bo (f_X3_size n S_17 ) fun (r_20 : Int32) (S_21 : St) =>
    bd ((r_20 - (1 : Int32))) fun (x2_23 : Int32) =>
    fixF (fun _ _ _ => none) (f_X8_why_28 n  ) n S_21 x1_19 x2_23
  ) else (
    some ((-2000000004 : Int32), S_13)
  )
def f_X8_either_57 (n : Nat) (S : St) (x1 : Int32) : Option (Int32 × St) :=
  bd (sI S 0 11 ((S.1 0 11) + (1 : Int32))) fun (S_1 : St) =>
  if x1 = 0 then (
    bo (f_X4_first n S_1 ) fun (r_6 : Int32) (S_7 : St) =>
    some (r_6, S_7)
  ) else (
    bo (f_X4_second n S_1 ) fun (r_3 : Int32) (S_4 : St) =>
    some (r_3, S_4)
  )
def f_X8_either (n : Nat) (S : St) (a1 : Int32) : Option (Int32 × St) :=
  if a1 < 0 then (
    some ((-2000000003 : Int32), S)
  ) else (
    if a1 ≤ (1 : Int32) then (
      if (12 : Int32) ≤ (S.1 0 11) then (
        some ((-2000000004 : Int32), S)
      ) else (
        bo (f_X8_isSolvable n S ) fun (r_12 : Int32) (S_13 : St) =>
        if r_12 = 0 then (
          some ((-2000000004 : Int32), S_13)
        ) else (
          if (S_13.1 0 15) = 0 then (
            bo (f_X3_all n S_13 ) fun (r_17 : Int32) (S_18 : St) =>
            bo (f_X4_find n S_18 r_17) fun (_ : Unit) (S_21 : St) =>
            bd (sI S_21 0 15 (1 : Int32)) fun (S_23 : St) =>
            f_X8_either_57 n   S_23 a1
          ) else (
            f_X8_either_57 n   S_13 a1
          )
        )
      )
    ) else (
      some ((-2000000003 : Int32), S)
    )
  )
def f_X8_count (n : Nat) (S : St) (a1 : Int32) : Option (Int32 × St) :=
  if a1 = (0 : Int32) then (
    bo (f_X3_size n S ) fun (r_2 : Int32) (S_3 : St) =>
    some (r_2, S_3)
  ) else (
  if a1 = (1 : Int32) then (
    bo (f_X7_size n 6 S ) fun (r_6 : Int32) (S_7 : St) =>
    some (r_6, S_7)
  ) else (
  if a1 = (2 : Int32) then (
    some ((S.1 0 1), S)
  ) else (
  if a1 = (3 : Int32) then (
    some ((S.1 0 9), S)
  ) else (
  if a1 = (4 : Int32) then (
    some ((S.1 0 10), S)
  ) else (
  if a1 = (5 : Int32) then (
    some ((S.1 0 11), S)
  ) else (
    some ((-2000000003 : Int32), S)
  ))))))
def f_X8_digest_178 (n : Nat) (k178 : St → Int64 → Int32 → Option (Int64 × St)) (S : St) (x1 : Int64) (x3 : Int32) : Option (Int64 × St) :=
  if (5 : Int32) < x3 then (
    some (x1, S)
  ) else (
    bo (f_X8_count n S x3) fun (r_2 : Int32) (S_3 : St) =>
    bd ((((31 : Int64) * x1) + (r_2).toInt64)) fun (x1_5 : Int64) =>
    bd (x3 + (1 : Int32)) fun (x3_6 : Int32) =>
    k178 S_3 x1_5 x3_6
  )
def f_X8_digest_176 (n : Nat) (S : St) (x1 : Int64) : Option (Int64 × St) :=
  bd ((0 : Int32)) fun (x3_7 : Int32) =>
  fixF (fun _ _ _ => none) (f_X8_digest_178 n  ) n S x1 x3_7
def f_X8_digest_142 (n : Nat) (k142 : St → Int64 → Int32 → Option (Int64 × St)) (S : St) (x1 : Int64) (x3 : Int32) : Option (Int64 × St) :=
  if (S.1 0 1) ≤ x3 then (
    f_X8_digest_176 n   S x1
  ) else (
    if (40 : Int32) ≤ x3 then (
      f_X8_digest_176 n   S x1
    ) else (
      if x3 < 0 ∨ 40 ≤ (x3).toNatClampNeg then none else
      bd ((((31 : Int64) * x1) + ((S.1 1 (x3).toNatClampNeg)).toInt64)) fun (x1_11 : Int64) =>
      bd (x3 + (1 : Int32)) fun (x3_12 : Int32) =>
      k142 S x1_11 x3_12
    )
  )
def f_X8_digest_104 (n : Nat) (k104 : St → Int64 → Int32 → Option (Int64 × St)) (S : St) (x1 : Int64) (x3 : Int32) : Option (Int64 × St) :=
  if (2 : Int32) < x3 then (
    bo (f_X8_holds n S ) fun (r_14 : Int32) (S_15 : St) =>
    bd ((((31 : Int64) * x1) + (r_14).toInt64)) fun (x1_17 : Int64) =>
    bd ((0 : Int32)) fun (x3_18 : Int32) =>
    fixF (fun _ _ _ => none) (f_X8_digest_142 n  ) n S_15 x1_17 x3_18
  ) else (
    bo (f_X8_exchange n S x3) fun (r_19 : Int32) (S_20 : St) =>
    bd ((((31 : Int64) * x1) + (r_19).toInt64)) fun (x1_22 : Int64) =>
    bd (x3 + (1 : Int32)) fun (x3_23 : Int32) =>
    k104 S_20 x1_22 x3_23
  )
def f_X8_digest_69 (n : Nat) (x3 : Int32) (k55 : St → Int64 → Int32 → Option (Int64 × St)) (k69 : St → Int64 → Int32 → Option (Int64 × St)) (S : St) (x1 : Int64) (x4 : Int32) : Option (Int64 × St) :=
  if (5 : Int32) < x4 then (
    bd (x3 + (1 : Int32)) fun (x3_25 : Int32) =>
    k55 S x1 x3_25
  ) else (
    bo (f_X8_term n S x3 x4) fun (r_26 : Int32) (S_27 : St) =>
    bd ((((31 : Int64) * x1) + (r_26).toInt64)) fun (x1_29 : Int64) =>
    bd (x4 + (1 : Int32)) fun (x4_30 : Int32) =>
    k69 S_27 x1_29 x4_30
  )
def f_X8_digest_55 (n : Nat) (k55 : St → Int64 → Int32 → Option (Int64 × St)) (S : St) (x1 : Int64) (x3 : Int32) : Option (Int64 × St) :=
  bo (f_X7_size n 6 S ) fun (r_31 : Int32) (S_32 : St) =>
  if r_31 ≤ x3 then (
    bd ((0 : Int32)) fun (x3_35 : Int32) =>
    fixF (fun _ _ _ => none) (f_X8_digest_104 n  ) n S_32 x1 x3_35
  ) else (
    bd ((0 : Int32)) fun (x4_36 : Int32) =>
    fixF (fun _ _ _ => none) (f_X8_digest_69 n x3 k55) n S_32 x1 x4_36
  )
def f_X8_digest_20 (n : Nat) (x3 : Int32) (k6 : St → Int64 → Int32 → Option (Int64 × St)) (k20 : St → Int64 → Int32 → Option (Int64 × St)) (S : St) (x1 : Int64) (x4 : Int32) : Option (Int64 × St) :=
  if (3 : Int32) < x4 then (
    bd (x3 + (1 : Int32)) fun (x3_38 : Int32) =>
    k6 S x1 x3_38
  ) else (
    bo (f_X8_literal n S x3 x4) fun (r_39 : Int32) (S_40 : St) =>
    bd ((((31 : Int64) * x1) + (r_39).toInt64)) fun (x1_42 : Int64) =>
    bd (x4 + (1 : Int32)) fun (x4_43 : Int32) =>
    k20 S_40 x1_42 x4_43
  )
def f_X8_digest_6 (n : Nat) (k6 : St → Int64 → Int32 → Option (Int64 × St)) (S : St) (x1 : Int64) (x3 : Int32) : Option (Int64 × St) :=
  bo (f_X3_size n S ) fun (r_44 : Int32) (S_45 : St) =>
  if r_44 ≤ x3 then (
    bd ((0 : Int32)) fun (x3_48 : Int32) =>
    fixF (fun _ _ _ => none) (f_X8_digest_55 n  ) n S_45 x1 x3_48
  ) else (
    bd ((0 : Int32)) fun (x4_49 : Int32) =>
    fixF (fun _ _ _ => none) (f_X8_digest_20 n x3 k6) n S_45 x1 x4_49
  )
def f_X8_digest (n : Nat) (S : St) : Option (Int64 × St) :=
  bd ((1609 : Int64)) fun (x1_50 : Int64) =>
  bd ((0 : Int32)) fun (x3_51 : Int32) =>
  fixF (fun _ _ _ => none) (f_X8_digest_6 n  ) n S x1_50 x3_51
def f_X9_within (n : Nat) (S : St) (a0 : Int32) (a1 : Int32) (a2 : Int32) : Option (Int32 × St) :=
  if a0 < a1 then (
    some ((0 : Int32), S)
  ) else (
    if a2 < a0 then (
      some ((0 : Int32), S)
    ) else (
      some ((1 : Int32), S)
    )
  )
def f_X9_termOf_48 (n : Nat) (x1 : Int32) (x2 : Int32) (x3 : Int32) (k3 : St → Int32 → Option (Int32 × St)) (S : St) (x4 : Int32) : Option (Int32 × St) :=
  bd (x4 + (1 : Int32)) fun (x4_1 : Int32) =>
  k3 S x4_1
def f_X9_termOf_3 (n : Nat) (x1 : Int32) (x2 : Int32) (x3 : Int32) (k3 : St → Int32 → Option (Int32 × St)) (S : St) (x4 : Int32) : Option (Int32 × St) :=
  if (S.1 28 18) ≤ x4 then (
    if (S.1 28 18) < 0 ∨ 64 ≤ ((S.1 28 18)).toNatClampNeg then none else
    bd (sI S 35 ((S.1 28 18)).toNatClampNeg x1) fun (S_4 : St) =>
    if (S_4.1 28 18) < 0 ∨ 64 ≤ ((S_4.1 28 18)).toNatClampNeg then none else
    bd (sI S_4 36 ((S_4.1 28 18)).toNatClampNeg x2) fun (S_6 : St) =>
    if (S_6.1 28 18) < 0 ∨ 64 ≤ ((S_6.1 28 18)).toNatClampNeg then none else
    bd (sI S_6 37 ((S_6.1 28 18)).toNatClampNeg x3) fun (S_8 : St) =>
    bd (sI S_8 28 18 ((S_8.1 28 18) + (1 : Int32))) fun (S_9 : St) =>
    some (((S_9.1 28 18) - (1 : Int32)), S_9)
  ) else (
    if x4 < 0 ∨ 64 ≤ (x4).toNatClampNeg then none else
    if (S.1 35 (x4).toNatClampNeg) = x1 then (
      if x4 < 0 ∨ 64 ≤ (x4).toNatClampNeg then none else
      if (S.1 36 (x4).toNatClampNeg) = x2 then (
        if x4 < 0 ∨ 64 ≤ (x4).toNatClampNeg then none else
        if (S.1 37 (x4).toNatClampNeg) = x3 then (
          some (x4, S)
        ) else (
          f_X9_termOf_48 n x1 x2 x3 k3 S x4
        )
      ) else (
        f_X9_termOf_48 n x1 x2 x3 k3 S x4
      )
    ) else (
      f_X9_termOf_48 n x1 x2 x3 k3 S x4
    )
  )
def f_X9_termOf (n : Nat) (S : St) (a1 : Int32) (a2 : Int32) (a3 : Int32) : Option (Int32 × St) :=
  bd ((5 : Int32)) fun (x4_16 : Int32) =>
  fixF (fun _ _ => none) (f_X9_termOf_3 n a1 a2 a3 ) n S x4_16
def f_X9_layLiteral_228 (n : Nat) (x1 : Int32) (k4 : St → Int32 → Int32 → Option (Unit × St)) (S : St) (x2 : Int32) (x3 : Int32) : Option (Unit × St) :=
  bd (x3 + (1 : Int32)) fun (x3_1 : Int32) =>
  k4 S x2 x3_1
def f_X9_layLiteral_214 (n : Nat) (x1 : Int32) (k4 : St → Int32 → Int32 → Option (Unit × St)) (S : St) (x3 : Int32) : Option (Unit × St) :=
  if (0 : Int32) < 0 ∨ 40 ≤ ((0 : Int32)).toNatClampNeg then none else
  if x1 < 0 ∨ 10 ≤ (x1).toNatClampNeg then none else
  bd (sI S 38 (x1).toNatClampNeg (S.1 40 ((0 : Int32)).toNatClampNeg)) fun (S_4 : St) =>
  bd ((0 : Int32)) fun (x2_5 : Int32) =>
  f_X9_layLiteral_228 n x1 k4 S_4 x2_5 x3
def f_X9_layLiteral_177 (n : Nat) (x1 : Int32) (k4 : St → Int32 → Int32 → Option (Unit × St)) (S : St) (x3 : Int32) (x6 : Int32) (t0 : Int32) (t1 : Int32) : Option (Unit × St) :=
  bd ((t0 - t1)) fun (x2_6 : Int32) =>
  if x2_6 < 0 ∨ 40 ≤ (x2_6).toNatClampNeg then none else
  bd (sI S 40 (x2_6).toNatClampNeg x6) fun (S_8 : St) =>
  bd (x2_6 + (1 : Int32)) fun (x2_9 : Int32) =>
  f_X9_layLiteral_228 n x1 k4 S_8 x2_9 x3
def f_X9_layLiteral_164 (n : Nat) (x1 : Int32) (k4 : St → Int32 → Int32 → Option (Unit × St)) (S : St) (x2 : Int32) (x3 : Int32) (x5 : Int32) (t0 : Int32) : Option (Unit × St) :=
  bd (t0) fun (x6_10 : Int32) =>
  if x5 = 0 then (
    f_X9_layLiteral_177 n x1 k4 S x3 x6_10 x2 ((2 : Int32))
  ) else (
    f_X9_layLiteral_177 n x1 k4 S x3 x6_10 x2 ((3 : Int32))
  )
def f_X9_layLiteral_118 (n : Nat) (x1 : Int32) (k4 : St → Int32 → Int32 → Option (Unit × St)) (S : St) (x2 : Int32) (x3 : Int32) (t0 : Int32) : Option (Unit × St) :=
  bd (t0) fun (x5_12 : Int32) =>
  if x5_12 = 0 then (
    if (x2 - (1 : Int32)) < 0 ∨ 40 ≤ ((x2 - (1 : Int32))).toNatClampNeg then none else
    bo (f_X9_termOf n S (1 : Int32) ((S.1 40 ((x2 - (1 : Int32))).toNatClampNeg)) (-2000000001 : Int32)) fun (r_15 : Int32) (S_16 : St) =>
    f_X9_layLiteral_164 n x1 k4 S_16 x2 x3 x5_12 r_15
  ) else (
    if (x2 - (2 : Int32)) < 0 ∨ 40 ≤ ((x2 - (2 : Int32))).toNatClampNeg then none else
    if (x2 - (1 : Int32)) < 0 ∨ 40 ≤ ((x2 - (1 : Int32))).toNatClampNeg then none else
    bo (f_X9_termOf n S (2 : Int32) ((S.1 40 ((x2 - (2 : Int32))).toNatClampNeg)) ((S.1 40 ((x2 - (1 : Int32))).toNatClampNeg))) fun (r_20 : Int32) (S_21 : St) =>
    f_X9_layLiteral_164 n x1 k4 S_21 x2 x3 x5_12 r_20
  )
def f_X9_layLiteral_88 (n : Nat) (x1 : Int32) (k4 : St → Int32 → Int32 → Option (Unit × St)) (S : St) (x2 : Int32) (x3 : Int32) (t1 : Int32) (t2 : Int32) : Option (Unit × St) :=
  if t1 < 0 ∨ 40 ≤ (t1).toNatClampNeg then none else
  bd (sI S 40 (t1).toNatClampNeg t2) fun (S_24 : St) =>
  bd (x2 + (1 : Int32)) fun (x2_25 : Int32) =>
  f_X9_layLiteral_228 n x1 k4 S_24 x2_25 x3
def f_X9_layLiteral_70 (n : Nat) (x1 : Int32) (k4 : St → Int32 → Int32 → Option (Unit × St)) (S : St) (x2 : Int32) (x3 : Int32) (x4 : Int32) : Option (Unit × St) :=
  if x4 = (102 : Int32) then (
    f_X9_layLiteral_88 n x1 k4 S x2 x3 x2 ((-1 : Int32))
  ) else (
    f_X9_layLiteral_88 n x1 k4 S x2 x3 x2 ((-2 : Int32))
  )
def f_X9_layLiteral_4 (n : Nat) (x1 : Int32) (k4 : St → Int32 → Int32 → Option (Unit × St)) (S : St) (x2 : Int32) (x3 : Int32) : Option (Unit × St) :=
  if x1 < 0 ∨ 10 ≤ (x1).toNatClampNeg then none else
  if (S.1 31 (x1).toNatClampNeg) ≤ x3 then (
    if (0 : Int32) < 0 ∨ 40 ≤ ((0 : Int32)).toNatClampNeg then none else
    if x1 < 0 ∨ 10 ≤ (x1).toNatClampNeg then none else
    bd (sI S 39 (x1).toNatClampNeg (S.1 40 ((0 : Int32)).toNatClampNeg)) fun (S_31 : St) =>
    some ((), S_31)
  ) else (
    if (((40 : Int32) * x1) + x3) < 0 ∨ 400 ≤ ((((40 : Int32) * x1) + x3)).toNatClampNeg then none else
    bd ((S.1 30 ((((40 : Int32) * x1) + x3)).toNatClampNeg)) fun (x4_33 : Int32) =>
    bo (f_X9_within n S x4_33 (97 : Int32) (101 : Int32)) fun (r_34 : Int32) (S_35 : St) =>
    if r_34 = 0 then (
      if x4_33 = (102 : Int32) then (
        f_X9_layLiteral_70 n x1 k4 S_35 x2 x3 x4_33
      ) else (
        if x4_33 = (103 : Int32) then (
          f_X9_layLiteral_70 n x1 k4 S_35 x2 x3 x4_33
        ) else (
          if x4_33 = (41 : Int32) then (
            if (x2 - (2 : Int32)) < 0 ∨ 40 ≤ ((x2 - (2 : Int32))).toNatClampNeg then none else
            if (S_35.1 40 ((x2 - (2 : Int32))).toNatClampNeg) < 0 then (
              f_X9_layLiteral_118 n x1 k4 S_35 x2 x3 ((0 : Int32))
            ) else (
              f_X9_layLiteral_118 n x1 k4 S_35 x2 x3 ((1 : Int32))
            )
          ) else (
            if x4_33 = (61 : Int32) then (
              f_X9_layLiteral_214 n x1 k4 S_35 x3
            ) else (
              if x4_33 = (35 : Int32) then (
                f_X9_layLiteral_214 n x1 k4 S_35 x3
              ) else (
                if x4_33 = (60 : Int32) then (
                  f_X9_layLiteral_214 n x1 k4 S_35 x3
                ) else (
                  f_X9_layLiteral_228 n x1 k4 S_35 x2 x3
                )
              )
            )
          )
        )
      )
    ) else (
      if x2 < 0 ∨ 40 ≤ (x2).toNatClampNeg then none else
      bd (sI S_35 40 (x2).toNatClampNeg (x4_33 - (97 : Int32))) fun (S_47 : St) =>
      bd (x2 + (1 : Int32)) fun (x2_48 : Int32) =>
      f_X9_layLiteral_228 n x1 k4 S_47 x2_48 x3
    )
  )
def f_X9_layLiteral (n : Nat) (S : St) (a1 : Int32) : Option (Unit × St) :=
  bd ((0 : Int32)) fun (x2_49 : Int32) =>
  bd ((0 : Int32)) fun (x3_50 : Int32) =>
  fixF (fun _ _ _ => none) (f_X9_layLiteral_4 n a1 ) n S x2_49 x3_50
def f_X9_layTerms_43 (n : Nat) (k43 : St → Int32 → Option (Unit × St)) (S : St) (x1 : Int32) : Option (Unit × St) :=
  if (S.1 28 2) ≤ x1 then (
    some ((), S)
  ) else (
    bo (f_X9_layLiteral n S x1) fun (_ : Unit) (S_3 : St) =>
    bd (x1 + (1 : Int32)) fun (x1_5 : Int32) =>
    k43 S_3 x1_5
  )
def f_X9_layTerms_7 (n : Nat) (k7 : St → Int32 → Option (Unit × St)) (S : St) (x1 : Int32) : Option (Unit × St) :=
  if (5 : Int32) ≤ x1 then (
    bd ((0 : Int32)) fun (x1_7 : Int32) =>
    fixF (fun _ _ => none) (f_X9_layTerms_43 n  ) n S x1_7
  ) else (
    if x1 < 0 ∨ 64 ≤ (x1).toNatClampNeg then none else
    bd (sI S 35 (x1).toNatClampNeg (0 : Int32)) fun (S_9 : St) =>
    if x1 < 0 ∨ 64 ≤ (x1).toNatClampNeg then none else
    bd (sI S_9 36 (x1).toNatClampNeg (-2000000001 : Int32)) fun (S_11 : St) =>
    if x1 < 0 ∨ 64 ≤ (x1).toNatClampNeg then none else
    bd (sI S_11 37 (x1).toNatClampNeg (-2000000001 : Int32)) fun (S_13 : St) =>
    bd (x1 + (1 : Int32)) fun (x1_14 : Int32) =>
    k7 S_13 x1_14
  )
def f_X9_layTerms (n : Nat) (S : St) : Option (Unit × St) :=
  bd (sI S 28 18 (5 : Int32)) fun (S_15 : St) =>
  bd ((0 : Int32)) fun (x1_16 : Int32) =>
  fixF (fun _ _ => none) (f_X9_layTerms_7 n  ) n S_15 x1_16
def f_X9_letter (n : Nat) (S : St) (a1 : Int32) : Option (Int32 × St) :=
  bo (f_X9_within n S a1 (32 : Int32) (126 : Int32)) fun (r_1 : Int32) (S_2 : St) =>
  if r_1 = 0 then (
    some ((-2000000003 : Int32), S_2)
  ) else (
    if (S_2.1 28 0) = (40 : Int32) then (
      some ((-2000000005 : Int32), S_2)
    ) else (
      if (S_2.1 28 0) < 0 ∨ 40 ≤ ((S_2.1 28 0)).toNatClampNeg then none else
      bd (sI S_2 29 ((S_2.1 28 0)).toNatClampNeg a1) fun (S_7 : St) =>
      bd (sI S_7 28 0 ((S_7.1 28 0) + (1 : Int32))) fun (S_8 : St) =>
      some ((S_8.1 28 0), S_8)
    )
  )
def f_X9_blank (n : Nat) (S : St) : Option (Int32 × St) :=
  bd ((S.1 28 0)) fun (x1_1 : Int32) =>
  bd (sI S 28 0 (0 : Int32)) fun (S_2 : St) =>
  some (x1_1, S_2)
def f_X9_begins (n : Nat) (S : St) : Option (Unit × St) :=
  bd (sI S 28 10 (0 : Int32)) fun (S_1 : St) =>
  bd (sI S_1 28 11 (0 : Int32)) fun (S_2 : St) =>
  bd (sI S_2 28 13 (0 : Int32)) fun (S_3 : St) =>
  bd (sI S_3 28 14 (0 : Int32)) fun (S_4 : St) =>
  bd (sI S_4 28 15 (0 : Int32)) fun (S_5 : St) =>
  bd (sI S_5 28 16 (0 : Int32)) fun (S_6 : St) =>
  some ((), S_6)
def f_X9_takesTerm_51 (n : Nat) (S : St) (t1 : Int32) (t2 : Int32) : Option (Int32 × St) :=
  if t1 < 0 ∨ 40 ≤ (t1).toNatClampNeg then none else
  bd (sI S 34 (t1).toNatClampNeg t2) fun (S_2 : St) =>
  bd (sI S_2 28 11 ((S_2.1 28 11) + (1 : Int32))) fun (S_3 : St) =>
  bd (sI S_3 28 10 (1 : Int32)) fun (S_4 : St) =>
  some ((1 : Int32), S_4)
def f_X9_takesTerm_30 (n : Nat) (S : St) (x1 : Int32) : Option (Int32 × St) :=
  if x1 = (102 : Int32) then (
    f_X9_takesTerm_51 n   S ((S.1 28 11)) ((41 : Int32))
  ) else (
    f_X9_takesTerm_51 n   S ((S.1 28 11)) ((44 : Int32))
  )
def f_X9_takesTerm (n : Nat) (S : St) (a1 : Int32) : Option (Int32 × St) :=
  bo (f_X9_within n S a1 (97 : Int32) (101 : Int32)) fun (r_6 : Int32) (S_7 : St) =>
  if r_6 = 0 then (
    if a1 = (102 : Int32) then (
      f_X9_takesTerm_30 n   S_7 a1
    ) else (
      if a1 = (103 : Int32) then (
        f_X9_takesTerm_30 n   S_7 a1
      ) else (
        some ((0 : Int32), S_7)
      )
    )
  ) else (
    bd (sI S_7 28 10 (2 : Int32)) fun (S_12 : St) =>
    some ((1 : Int32), S_12)
  )
def f_X9_takesSign_30 (n : Nat) (S : St) (x1 : Int32) (t0 : Int32) : Option (Int32 × St) :=
  bd (t0) fun (x2_1 : Int32) =>
  if x2_1 = 0 then (
    if ¬ (x2_1 = 0 ∨ x2_1 = 1) then none else
    some (x2_1, S)
  ) else (
    bd (sI S 28 14 x1) fun (S_4 : St) =>
    bd (sI S_4 28 13 (1 : Int32)) fun (S_5 : St) =>
    bd (sI S_5 28 10 (0 : Int32)) fun (S_6 : St) =>
    if ¬ (x2_1 = 0 ∨ x2_1 = 1) then none else
    some (x2_1, S_6)
  )
def f_X9_takesSign_29 (n : Nat) (S : St) (x1 : Int32) : Option (Int32 × St) :=
  f_X9_takesSign_30 n   S x1 ((0 : Int32))
def f_X9_takesSign_25 (n : Nat) (S : St) (x1 : Int32) : Option (Int32 × St) :=
  f_X9_takesSign_30 n   S x1 ((1 : Int32))
def f_X9_takesSign (n : Nat) (S : St) (a1 : Int32) : Option (Int32 × St) :=
  if (S.1 28 13) = 0 then (
    if a1 = (61 : Int32) then (
      f_X9_takesSign_25 n   S a1
    ) else (
      if a1 = (35 : Int32) then (
        f_X9_takesSign_25 n   S a1
      ) else (
        if a1 = (60 : Int32) then (
          f_X9_takesSign_25 n   S a1
        ) else (
          f_X9_takesSign_29 n   S a1
        )
      )
    )
  ) else (
    f_X9_takesSign_29 n   S a1
  )
def f_X9_takesBehind_113 (n : Nat) (S : St) (x1 : Int32) : Option (Int32 × St) :=
  bo (f_X9_takesSign n S x1) fun (r_1 : Int32) (S_2 : St) =>
  if ¬ (r_1 = 0 ∨ r_1 = 1) then none else
  some (r_1, S_2)
def f_X9_takesBehind_103 (n : Nat) (S : St) (t1 : Int32) : Option (Int32 × St) :=
  if ¬ (t1 = 0 ∨ t1 = 1) then none else
  bd (sI S 28 16 t1) fun (S_5 : St) =>
  bd (sI S_5 28 10 (3 : Int32)) fun (S_7 : St) =>
  some ((1 : Int32), S_7)
def f_X9_takesBehind_91 (n : Nat) (S : St) (x1 : Int32) : Option (Int32 × St) :=
  if x1 = (45 : Int32) then (
    f_X9_takesBehind_103 n   S ((1 : Int32))
  ) else (
    f_X9_takesBehind_103 n   S ((0 : Int32))
  )
def f_X9_takesBehind (n : Nat) (S : St) (a1 : Int32) : Option (Int32 × St) :=
  if (S.1 28 11) ≤ 0 then (
    if (S.1 28 13) = 0 then (
      f_X9_takesBehind_113 n   S a1
    ) else (
      if (S.1 28 14) = (60 : Int32) then (
        if a1 = (43 : Int32) then (
          f_X9_takesBehind_91 n   S a1
        ) else (
          if a1 = (45 : Int32) then (
            f_X9_takesBehind_91 n   S a1
          ) else (
            f_X9_takesBehind_113 n   S a1
          )
        )
      ) else (
        f_X9_takesBehind_113 n   S a1
      )
    )
  ) else (
    if ((S.1 28 11) - (1 : Int32)) < 0 ∨ 40 ≤ (((S.1 28 11) - (1 : Int32))).toNatClampNeg then none else
    if a1 = (S.1 34 (((S.1 28 11) - (1 : Int32))).toNatClampNeg) then (
      if a1 = (44 : Int32) then (
        if ((S.1 28 11) - (1 : Int32)) < 0 ∨ 40 ≤ (((S.1 28 11) - (1 : Int32))).toNatClampNeg then none else
        bd (sI S 34 (((S.1 28 11) - (1 : Int32))).toNatClampNeg (41 : Int32)) fun (S_19 : St) =>
        bd (sI S_19 28 10 (0 : Int32)) fun (S_20 : St) =>
        some ((1 : Int32), S_20)
      ) else (
        bd (sI S 28 11 ((S.1 28 11) - (1 : Int32))) fun (S_17 : St) =>
        some ((1 : Int32), S_17)
      )
    ) else (
      some ((0 : Int32), S)
    )
  )
def f_X9_takesFigure_71 (n : Nat) (S : St) (x2 : Int32) (t1 : Int32) : Option (Int32 × St) :=
  bd (sI S 28 15 t1) fun (S_1 : St) =>
  if ¬ (x2 = 0 ∨ x2 = 1) then none else
  some (x2, S_1)
def f_X9_takesFigure_46 (n : Nat) (S : St) (x1 : Int32) (t0 : Int32) : Option (Int32 × St) :=
  bd (t0) fun (x2_3 : Int32) =>
  if x2_3 = 0 then (
    f_X9_takesFigure_71 n   S x2_3 ((S.1 28 15))
  ) else (
    f_X9_takesFigure_71 n   S x2_3 (((((10 : Int32) * (S.1 28 15)) + x1) - (48 : Int32)))
  )
def f_X9_takesFigure_45 (n : Nat) (S : St) (x1 : Int32) : Option (Int32 × St) :=
  f_X9_takesFigure_46 n   S x1 ((0 : Int32))
def f_X9_takesFigure_24 (n : Nat) (S : St) (x1 : Int32) : Option (Int32 × St) :=
  if (1000000 : Int32) ≤ ((((10 : Int32) * (S.1 28 15)) + x1) - (48 : Int32)) then (
    f_X9_takesFigure_45 n   S x1
  ) else (
    f_X9_takesFigure_46 n   S x1 ((1 : Int32))
  )
def f_X9_takesFigure (n : Nat) (S : St) (a1 : Int32) : Option (Int32 × St) :=
  bo (f_X9_within n S a1 (48 : Int32) (57 : Int32)) fun (r_6 : Int32) (S_7 : St) =>
  if r_6 = 0 then (
    f_X9_takesFigure_45 n   S_7 a1
  ) else (
    if 0 < (S_7.1 28 15) then (
      f_X9_takesFigure_24 n   S_7 a1
    ) else (
      if a1 ≤ (48 : Int32) then (
        f_X9_takesFigure_45 n   S_7 a1
      ) else (
        f_X9_takesFigure_24 n   S_7 a1
      )
    )
  )
def f_X9_takes_36 (n : Nat) (S : St) (x1 : Int32) (t1 : Int32) : Option (Int32 × St) :=
  bd (sI S 28 10 t1) fun (S_1 : St) =>
  if x1 = (40 : Int32) then (
    some ((1 : Int32), S_1)
  ) else (
    some ((0 : Int32), S_1)
  )
def f_X9_takes (n : Nat) (S : St) (a1 : Int32) : Option (Int32 × St) :=
  if (S.1 28 10) = 0 then (
    bo (f_X9_takesTerm n S a1) fun (r_15 : Int32) (S_16 : St) =>
    if ¬ (r_15 = 0 ∨ r_15 = 1) then none else
    some (r_15, S_16)
  ) else (
    if (S.1 28 10) = (1 : Int32) then (
      if a1 = (40 : Int32) then (
        f_X9_takes_36 n   S a1 ((0 : Int32))
      ) else (
        f_X9_takes_36 n   S a1 ((S.1 28 10))
      )
    ) else (
      if (S.1 28 10) = (2 : Int32) then (
        bo (f_X9_takesBehind n S a1) fun (r_10 : Int32) (S_11 : St) =>
        if ¬ (r_10 = 0 ∨ r_10 = 1) then none else
        some (r_10, S_11)
      ) else (
        bo (f_X9_takesFigure n S a1) fun (r_6 : Int32) (S_7 : St) =>
        if ¬ (r_6 = 0 ∨ r_6 = 1) then none else
        some (r_6, S_7)
      )
    )
  )
def f_X9_goAlong_52 (n : Nat) (k11 : St → Int32 → Option (Int32 × St)) (S : St) (x1 : Int32) (t1 : Int32) : Option (Int32 × St) :=
  bd (sI S 28 17 t1) fun (S_1 : St) =>
  k11 S_1 x1
def f_X9_goAlong_11 (n : Nat) (k11 : St → Int32 → Option (Int32 × St)) (S : St) (x1 : Int32) : Option (Int32 × St) :=
  if (S.1 28 0) ≤ x1 then (
    some (x1, S)
  ) else (
    if x1 < 0 ∨ 40 ≤ (x1).toNatClampNeg then none else
    bo (f_X9_takes n S ((S.1 29 (x1).toNatClampNeg))) fun (r_4 : Int32) (S_5 : St) =>
    if r_4 = 0 then (
      some (x1, S_5)
    ) else (
      bd (x1 + (1 : Int32)) fun (x1_8 : Int32) =>
      if (S_5.1 28 10) = (3 : Int32) then (
        f_X9_goAlong_52 n  k11 S_5 x1_8 ((S_5.1 28 17))
      ) else (
        f_X9_goAlong_52 n  k11 S_5 x1_8 x1_8
      )
    )
  )
def f_X9_goAlong (n : Nat) (S : St) : Option (Int32 × St) :=
  bo (f_X9_begins n S ) fun (_ : Unit) (S_11 : St) =>
  bd ((0 : Int32)) fun (x1_13 : Int32) =>
  bd (sI S_11 28 17 (0 : Int32)) fun (S_14 : St) =>
  fixF (fun _ _ => none) (f_X9_goAlong_11 n  ) n S_14 x1_13
def f_X9_fault (n : Nat) (S : St) : Option (Int32 × St) :=
  bo (f_X9_goAlong n S ) fun (r_1 : Int32) (S_2 : St) =>
  some (r_1, S_2)
def f_X9_isWhole_37 (n : Nat) (S : St) : Option (Int32 × St) :=
  some ((1 : Int32), S)
def f_X9_isWhole (n : Nat) (S : St) : Option (Int32 × St) :=
  if (S.1 28 13) = 0 then (
    some ((0 : Int32), S)
  ) else (
    if (S.1 28 11) = 0 then (
      if (S.1 28 10) = (2 : Int32) then (
        f_X9_isWhole_37 n   S 
      ) else (
        if (S.1 28 10) = (3 : Int32) then (
          if (S.1 28 15) ≤ 0 then (
            some ((0 : Int32), S)
          ) else (
            f_X9_isWhole_37 n   S 
          )
        ) else (
          some ((0 : Int32), S)
        )
      )
    ) else (
      some ((0 : Int32), S)
    )
  )
def f_X9_add_169 (n : Nat) (S : St) (t1 : Int32) (t2 : Int32) : Option (Int32 × St) :=
  if t1 < 0 ∨ 10 ≤ (t1).toNatClampNeg then none else
  bd (sI S 33 (t1).toNatClampNeg t2) fun (S_2 : St) =>
  bd (sI S_2 28 2 ((S_2.1 28 2) + (1 : Int32))) fun (S_3 : St) =>
  bd (sI S_3 28 7 ((S_3.1 28 7) + (1 : Int32))) fun (S_4 : St) =>
  bd (sI S_4 28 0 (0 : Int32)) fun (S_5 : St) =>
  some (((S_5.1 28 2) - (1 : Int32)), S_5)
def f_X9_add_141 (n : Nat) (S : St) (t1 : Int32) (t2 : Int32) : Option (Int32 × St) :=
  if t1 < 0 ∨ 10 ≤ (t1).toNatClampNeg then none else
  bd (sI S 32 (t1).toNatClampNeg t2) fun (S_7 : St) =>
  if (S_7.1 28 16) = 0 then (
    f_X9_add_169 n   S_7 ((S_7.1 28 2)) ((S_7.1 28 15))
  ) else (
    f_X9_add_169 n   S_7 ((S_7.1 28 2)) ((-(S_7.1 28 15)))
  )
def f_X9_add_35 (n : Nat) (k35 : St → Int32 → Option (Int32 × St)) (S : St) (x1 : Int32) : Option (Int32 × St) :=
  if (S.1 28 17) ≤ x1 then (
    if (S.1 28 2) < 0 ∨ 10 ≤ ((S.1 28 2)).toNatClampNeg then none else
    bd (sI S 31 ((S.1 28 2)).toNatClampNeg (S.1 28 17)) fun (S_11 : St) =>
    bo (f_X9_layLiteral n S_11 (S_11.1 28 2)) fun (_ : Unit) (S_13 : St) =>
    if (S_13.1 28 18) ≤ (10 : Int32) then (
      if (S_13.1 28 14) = (61 : Int32) then (
        f_X9_add_141 n   S_13 ((S_13.1 28 2)) ((0 : Int32))
      ) else (
        if (S_13.1 28 14) = (35 : Int32) then (
          f_X9_add_141 n   S_13 ((S_13.1 28 2)) ((1 : Int32))
        ) else (
          f_X9_add_141 n   S_13 ((S_13.1 28 2)) ((2 : Int32))
        )
      )
    ) else (
      bo (f_X9_layTerms n S_13 ) fun (_ : Unit) (S_19 : St) =>
      some ((-2000000005 : Int32), S_19)
    )
  ) else (
    if x1 < 0 ∨ 40 ≤ (x1).toNatClampNeg then none else
    if (((40 : Int32) * (S.1 28 2)) + x1) < 0 ∨ 400 ≤ ((((40 : Int32) * (S.1 28 2)) + x1)).toNatClampNeg then none else
    bd (sI S 30 ((((40 : Int32) * (S.1 28 2)) + x1)).toNatClampNeg (S.1 29 (x1).toNatClampNeg)) fun (S_23 : St) =>
    bd (x1 + (1 : Int32)) fun (x1_24 : Int32) =>
    k35 S_23 x1_24
  )
def f_X9_add (n : Nat) (S : St) : Option (Int32 × St) :=
  bo (f_X9_goAlong n S ) fun (r_25 : Int32) (S_26 : St) =>
  if r_25 < (S_26.1 28 0) then (
    some ((-2000000004 : Int32), S_26)
  ) else (
    bo (f_X9_isWhole n S_26 ) fun (r_29 : Int32) (S_30 : St) =>
    if r_29 = 0 then (
      some ((-2000000004 : Int32), S_30)
    ) else (
      if (S_30.1 28 2) = (10 : Int32) then (
        some ((-2000000005 : Int32), S_30)
      ) else (
        bd ((0 : Int32)) fun (x1_34 : Int32) =>
        fixF (fun _ _ => none) (f_X9_add_35 n  ) n S_30 x1_34
      )
    )
  )
def f_X9_isLiteral (n : Nat) (S : St) (a1 : Int32) : Option (Int32 × St) :=
  bo (f_X9_within n S a1 (0 : Int32) (((S.1 28 2) - (1 : Int32)))) fun (r_1 : Int32) (S_2 : St) =>
  if ¬ (r_1 = 0 ∨ r_1 = 1) then none else
  some (r_1, S_2)
def f_X9_drop_85 (n : Nat) (x2 : Int32) (k33 : St → Int32 → Option (Int32 × St)) (k85 : St → Int32 → Option (Int32 × St)) (S : St) (x3 : Int32) : Option (Int32 × St) :=
  if (40 : Int32) ≤ x3 then (
    bd (x2 + (1 : Int32)) fun (x2_2 : Int32) =>
    k33 S x2_2
  ) else (
    if ((((40 : Int32) * x2) + (40 : Int32)) + x3) < 0 ∨ 400 ≤ (((((40 : Int32) * x2) + (40 : Int32)) + x3)).toNatClampNeg then none else
    if (((40 : Int32) * x2) + x3) < 0 ∨ 400 ≤ ((((40 : Int32) * x2) + x3)).toNatClampNeg then none else
    bd (sI S 30 ((((40 : Int32) * x2) + x3)).toNatClampNeg (S.1 30 (((((40 : Int32) * x2) + (40 : Int32)) + x3)).toNatClampNeg)) fun (S_5 : St) =>
    bd (x3 + (1 : Int32)) fun (x3_6 : Int32) =>
    k85 S_5 x3_6
  )
def f_X9_drop_33 (n : Nat) (k33 : St → Int32 → Option (Int32 × St)) (S : St) (x2 : Int32) : Option (Int32 × St) :=
  if (S.1 28 2) ≤ x2 then (
    bo (f_X9_layTerms n S ) fun (_ : Unit) (S_9 : St) =>
    some ((S_9.1 28 2), S_9)
  ) else (
    if (x2 + (1 : Int32)) < 0 ∨ 10 ≤ ((x2 + (1 : Int32))).toNatClampNeg then none else
    if x2 < 0 ∨ 10 ≤ (x2).toNatClampNeg then none else
    bd (sI S 32 (x2).toNatClampNeg (S.1 32 ((x2 + (1 : Int32))).toNatClampNeg)) fun (S_13 : St) =>
    if (x2 + (1 : Int32)) < 0 ∨ 10 ≤ ((x2 + (1 : Int32))).toNatClampNeg then none else
    if x2 < 0 ∨ 10 ≤ (x2).toNatClampNeg then none else
    bd (sI S_13 33 (x2).toNatClampNeg (S_13.1 33 ((x2 + (1 : Int32))).toNatClampNeg)) fun (S_16 : St) =>
    if (x2 + (1 : Int32)) < 0 ∨ 10 ≤ ((x2 + (1 : Int32))).toNatClampNeg then none else
    if x2 < 0 ∨ 10 ≤ (x2).toNatClampNeg then none else
    bd (sI S_16 31 (x2).toNatClampNeg (S_16.1 31 ((x2 + (1 : Int32))).toNatClampNeg)) fun (S_19 : St) =>
    bd ((0 : Int32)) fun (x3_20 : Int32) =>
    fixF (fun _ _ => none) (f_X9_drop_85 n x2 k33) n S_19 x3_20
  )
def f_X9_drop (n : Nat) (S : St) (a1 : Int32) : Option (Int32 × St) :=
  bo (f_X9_isLiteral n S a1) fun (r_21 : Int32) (S_22 : St) =>
  if r_21 = 0 then (
    some ((-2000000002 : Int32), S_22)
  ) else (
    bd (sI S_22 28 2 ((S_22.1 28 2) - (1 : Int32))) fun (S_25 : St) =>
    bd (sI S_25 28 8 ((S_25.1 28 8) + (1 : Int32))) fun (S_26 : St) =>
    bd (a1) fun (x2_27 : Int32) =>
    fixF (fun _ _ => none) (f_X9_drop_33 n  ) n S_26 x2_27
  )
def f_X9_scale_90 (n : Nat) (x1 : Int32) (x2 : Int32) (k90 : St → Int32 → Option (Int32 × St)) (S : St) (x3 : Int32) : Option (Int32 × St) :=
  if (S.1 28 2) ≤ x3 then (
    some (x2, S)
  ) else (
    if x3 < 0 ∨ 10 ≤ (x3).toNatClampNeg then none else
    if x3 < 0 ∨ 10 ≤ (x3).toNatClampNeg then none else
    bd (sI S 33 (x3).toNatClampNeg ((S.1 33 (x3).toNatClampNeg) * x1)) fun (S_4 : St) =>
    bd (x3 + (1 : Int32)) fun (x3_5 : Int32) =>
    k90 S_4 x3_5
  )
def f_X9_scale_80 (n : Nat) (x1 : Int32) (k20 : St → Int32 → Int32 → Option (Int32 × St)) (S : St) (x3 : Int32) (t0 : Int32) (t1 : Int32) : Option (Int32 × St) :=
  bd ((t0 + t1)) fun (x2_6 : Int32) =>
  bd (x3 + (1 : Int32)) fun (x3_7 : Int32) =>
  k20 S x2_6 x3_7
def f_X9_scale_20 (n : Nat) (x1 : Int32) (k20 : St → Int32 → Int32 → Option (Int32 × St)) (S : St) (x2 : Int32) (x3 : Int32) : Option (Int32 × St) :=
  if (S.1 28 2) ≤ x3 then (
    bd ((0 : Int32)) fun (x3_9 : Int32) =>
    fixF (fun _ _ => none) (f_X9_scale_90 n x1 x2 ) n S x3_9
  ) else (
    if x3 < 0 ∨ 10 ≤ (x3).toNatClampNeg then none else
    bd ((((S.1 33 (x3).toNatClampNeg)).toInt64 * (x1).toInt64)) fun (x4_11 : Int64) =>
    if 0 < (lg_cmp x4_11 (2000000000 : Int64)) then (
      some ((-2000000006 : Int32), S)
    ) else (
      if 0 ≤ (lg_cmp x4_11 (-2000000000 : Int64)) then (
        if x3 < 0 ∨ 10 ≤ (x3).toNatClampNeg then none else
        if (lg_cmp x4_11 ((S.1 33 (x3).toNatClampNeg)).toInt64) = 0 then (
          f_X9_scale_80 n x1 k20 S x3 x2 ((0 : Int32))
        ) else (
          f_X9_scale_80 n x1 k20 S x3 x2 ((1 : Int32))
        )
      ) else (
        some ((-2000000006 : Int32), S)
      )
    )
  )
def f_X9_scale (n : Nat) (S : St) (a1 : Int32) : Option (Int32 × St) :=
  bo (f_X9_within n S a1 (-1000 : Int32) (1000 : Int32)) fun (r_16 : Int32) (S_17 : St) =>
  if r_16 = 0 then (
    some ((-2000000003 : Int32), S_17)
  ) else (
    bd ((0 : Int32)) fun (x2_20 : Int32) =>
    bd ((0 : Int32)) fun (x3_21 : Int32) =>
    fixF (fun _ _ _ => none) (f_X9_scale_20 n a1 ) n S_17 x2_20 x3_21
  )
def f_X9_join_104 (n : Nat) (x3 : Int32) (x4 : Int32) (k66 : St → Int32 → Option (Unit × St)) (S : St) (x5 : Int32) (t1 : Int32) (t2 : Int32) : Option (Unit × St) :=
  if t1 < 0 ∨ 10 ≤ (t1).toNatClampNeg then none else
  bd (sI S 41 (t1).toNatClampNeg t2) fun (S_2 : St) =>
  bd (x5 + (1 : Int32)) fun (x5_3 : Int32) =>
  k66 S_2 x5_3
def f_X9_join_66 (n : Nat) (x3 : Int32) (x4 : Int32) (k66 : St → Int32 → Option (Unit × St)) (S : St) (x5 : Int32) : Option (Unit × St) :=
  if (S.1 28 18) ≤ x5 then (
    some ((), S)
  ) else (
    if x5 < 0 ∨ 10 ≤ (x5).toNatClampNeg then none else
    if (S.1 41 (x5).toNatClampNeg) = x4 then (
      f_X9_join_104 n x3 x4 k66 S x5 x5 x3
    ) else (
      if x5 < 0 ∨ 10 ≤ (x5).toNatClampNeg then none else
      f_X9_join_104 n x3 x4 k66 S x5 x5 ((S.1 41 (x5).toNatClampNeg))
    )
  )
def f_X9_join_61 (n : Nat) (S : St) (x3 : Int32) (t0 : Int32) : Option (Unit × St) :=
  bd (t0) fun (x4_8 : Int32) =>
  bd ((0 : Int32)) fun (x5_9 : Int32) =>
  fixF (fun _ _ => none) (f_X9_join_66 n x3 x4_8 ) n S x5_9
def f_X9_join_30 (n : Nat) (S : St) (x1 : Int32) (x2 : Int32) (t0 : Int32) : Option (Unit × St) :=
  bd (t0) fun (x3_10 : Int32) =>
  if x1 < 0 ∨ 10 ≤ (x1).toNatClampNeg then none else
  if x2 < 0 ∨ 10 ≤ (x2).toNatClampNeg then none else
  if (S.1 41 (x2).toNatClampNeg) ≤ (S.1 41 (x1).toNatClampNeg) then (
    if x1 < 0 ∨ 10 ≤ (x1).toNatClampNeg then none else
    f_X9_join_61 n   S x3_10 ((S.1 41 (x1).toNatClampNeg))
  ) else (
    if x2 < 0 ∨ 10 ≤ (x2).toNatClampNeg then none else
    f_X9_join_61 n   S x3_10 ((S.1 41 (x2).toNatClampNeg))
  )
def f_X9_join (n : Nat) (S : St) (a1 : Int32) (a2 : Int32) : Option (Unit × St) :=
  if a1 < 0 ∨ 10 ≤ (a1).toNatClampNeg then none else
  if a2 < 0 ∨ 10 ≤ (a2).toNatClampNeg then none else
  if (S.1 41 (a2).toNatClampNeg) ≤ (S.1 41 (a1).toNatClampNeg) then (
    if a2 < 0 ∨ 10 ≤ (a2).toNatClampNeg then none else
    f_X9_join_30 n   S a1 a2 ((S.1 41 (a2).toNatClampNeg))
  ) else (
    if a1 < 0 ∨ 10 ≤ (a1).toNatClampNeg then none else
    f_X9_join_30 n   S a1 a2 ((S.1 41 (a1).toNatClampNeg))
  )
def f_X9_areAlike_94 (n : Nat) (S : St) : Option (Int32 × St) :=
  some ((1 : Int32), S)
def f_X9_areAlike_54 (n : Nat) (S : St) (x1 : Int32) (x2 : Int32) (t0 : Int32) : Option (Int32 × St) :=
  bd (t0) fun (x3_1 : Int32) =>
  if x3_1 = 0 then (
    some ((0 : Int32), S)
  ) else (
    if x1 < 0 ∨ 64 ≤ (x1).toNatClampNeg then none else
    if (S.1 35 (x1).toNatClampNeg) = (1 : Int32) then (
      f_X9_areAlike_94 n   S 
    ) else (
      if x1 < 0 ∨ 64 ≤ (x1).toNatClampNeg then none else
      if (S.1 37 (x1).toNatClampNeg) < 0 ∨ 10 ≤ ((S.1 37 (x1).toNatClampNeg)).toNatClampNeg then none else
      if x2 < 0 ∨ 64 ≤ (x2).toNatClampNeg then none else
      if (S.1 37 (x2).toNatClampNeg) < 0 ∨ 10 ≤ ((S.1 37 (x2).toNatClampNeg)).toNatClampNeg then none else
      if (S.1 41 ((S.1 37 (x1).toNatClampNeg)).toNatClampNeg) = (S.1 41 ((S.1 37 (x2).toNatClampNeg)).toNatClampNeg) then (
        f_X9_areAlike_94 n   S 
      ) else (
        some ((0 : Int32), S)
      )
    )
  )
def f_X9_areAlike_53 (n : Nat) (S : St) (x1 : Int32) (x2 : Int32) : Option (Int32 × St) :=
  f_X9_areAlike_54 n   S x1 x2 ((0 : Int32))
def f_X9_areAlike (n : Nat) (S : St) (a1 : Int32) (a2 : Int32) : Option (Int32 × St) :=
  if a1 < 0 ∨ 64 ≤ (a1).toNatClampNeg then none else
  if (S.1 35 (a1).toNatClampNeg) ≤ 0 then (
    f_X9_areAlike_53 n   S a1 a2
  ) else (
    if a1 < 0 ∨ 64 ≤ (a1).toNatClampNeg then none else
    if a2 < 0 ∨ 64 ≤ (a2).toNatClampNeg then none else
    if (S.1 35 (a1).toNatClampNeg) = (S.1 35 (a2).toNatClampNeg) then (
      if a1 < 0 ∨ 64 ≤ (a1).toNatClampNeg then none else
      if (S.1 36 (a1).toNatClampNeg) < 0 ∨ 10 ≤ ((S.1 36 (a1).toNatClampNeg)).toNatClampNeg then none else
      if a2 < 0 ∨ 64 ≤ (a2).toNatClampNeg then none else
      if (S.1 36 (a2).toNatClampNeg) < 0 ∨ 10 ≤ ((S.1 36 (a2).toNatClampNeg)).toNatClampNeg then none else
      if (S.1 41 ((S.1 36 (a1).toNatClampNeg)).toNatClampNeg) = (S.1 41 ((S.1 36 (a2).toNatClampNeg)).toNatClampNeg) then (
        f_X9_areAlike_54 n   S a1 a2 ((1 : Int32))
      ) else (
        f_X9_areAlike_53 n   S a1 a2
      )
    ) else (
      f_X9_areAlike_53 n   S a1 a2
    )
  )
def f_X9_growSame_57 (n : Nat) (x2 : Int32) (k2 : St → Int32 → Option (Unit × St)) (k10 : St → Int32 → Int32 → Option (Unit × St)) (k20 : St → Int32 → Int32 → Option (Unit × St)) (S : St) (x1 : Int32) (x3 : Int32) : Option (Unit × St) :=
  bd (x3 + (1 : Int32)) fun (x3_1 : Int32) =>
  k20 S x1 x3_1
def f_X9_growSame_20 (n : Nat) (x2 : Int32) (k2 : St → Int32 → Option (Unit × St)) (k10 : St → Int32 → Int32 → Option (Unit × St)) (k20 : St → Int32 → Int32 → Option (Unit × St)) (S : St) (x1 : Int32) (x3 : Int32) : Option (Unit × St) :=
  if x2 ≤ x3 then (
    bd (x2 + (1 : Int32)) fun (x2_3 : Int32) =>
    k10 S x1 x2_3
  ) else (
    if x2 < 0 ∨ 10 ≤ (x2).toNatClampNeg then none else
    if x3 < 0 ∨ 10 ≤ (x3).toNatClampNeg then none else
    if (S.1 41 (x2).toNatClampNeg) = (S.1 41 (x3).toNatClampNeg) then (
      f_X9_growSame_57 n x2 k2 k10 k20 S x1 x3
    ) else (
      bo (f_X9_areAlike n S x2 x3) fun (r_7 : Int32) (S_8 : St) =>
      if r_7 = 0 then (
        f_X9_growSame_57 n x2 k2 k10 k20 S_8 x1 x3
      ) else (
        bo (f_X9_join n S_8 x2 x3) fun (_ : Unit) (S_12 : St) =>
        bd ((1 : Int32)) fun (x1_14 : Int32) =>
        f_X9_growSame_57 n x2 k2 k10 k20 S_12 x1_14 x3
      )
    )
  )
def f_X9_growSame_10 (n : Nat) (k2 : St → Int32 → Option (Unit × St)) (k10 : St → Int32 → Int32 → Option (Unit × St)) (S : St) (x1 : Int32) (x2 : Int32) : Option (Unit × St) :=
  if (S.1 28 18) ≤ x2 then (
    k2 S x1
  ) else (
    bd ((5 : Int32)) fun (x3_16 : Int32) =>
    fixF (fun _ _ _ => none) (f_X9_growSame_20 n x2 k2 k10) n S x1 x3_16
  )
def f_X9_growSame_2 (n : Nat) (k2 : St → Int32 → Option (Unit × St)) (S : St) (x1 : Int32) : Option (Unit × St) :=
  if x1 = 0 then (
    some ((), S)
  ) else (
    bd ((0 : Int32)) fun (x1_18 : Int32) =>
    bd ((5 : Int32)) fun (x2_19 : Int32) =>
    fixF (fun _ _ _ => none) (f_X9_growSame_10 n  k2) n S x1_18 x2_19
  )
def f_X9_growSame (n : Nat) (S : St) : Option (Unit × St) :=
  bd ((1 : Int32)) fun (x1_20 : Int32) =>
  fixF (fun _ _ => none) (f_X9_growSame_2 n  ) n S x1_20
def f_X9_least (n : Nat) (S : St) (a0 : Int64) (a2 : Int64) : Option (Int64 × St) :=
  if 0 ≤ (lg_cmp a0 a2) then (
    some (a2, S)
  ) else (
    some (a0, S)
  )
def f_X9_isBelowSomewhere_37 (n : Nat) (k4 : St → Int32 → Int32 → Option (Int32 × St)) (S : St) (x2 : Int32) (t0 : Int32) : Option (Int32 × St) :=
  bd (t0) fun (x1_1 : Int32) =>
  bd (x2 + (1 : Int32)) fun (x2_2 : Int32) =>
  k4 S x1_1 x2_2
def f_X9_isBelowSomewhere_32 (n : Nat) (k4 : St → Int32 → Int32 → Option (Int32 × St)) (S : St) (x2 : Int32) : Option (Int32 × St) :=
  f_X9_isBelowSomewhere_37 n  k4 S x2 ((1 : Int32))
def f_X9_isBelowSomewhere_4 (n : Nat) (k4 : St → Int32 → Int32 → Option (Int32 × St)) (S : St) (x1 : Int32) (x2 : Int32) : Option (Int32 × St) :=
  if (S.1 28 18) ≤ x2 then (
    if ¬ (x1 = 0 ∨ x1 = 1) then none else
    some (x1, S)
  ) else (
    if x1 = 0 then (
      if (((10 : Int32) * x2) + x2) < 0 ∨ 100 ≤ ((((10 : Int32) * x2) + x2)).toNatClampNeg then none else
      if 0 ≤ (lg_cmp (S.2 42 ((((10 : Int32) * x2) + x2)).toNatClampNeg) (0 : Int64)) then (
        f_X9_isBelowSomewhere_37 n  k4 S x2 ((0 : Int32))
      ) else (
        f_X9_isBelowSomewhere_32 n  k4 S x2
      )
    ) else (
      f_X9_isBelowSomewhere_32 n  k4 S x2
    )
  )
def f_X9_isBelowSomewhere (n : Nat) (S : St) : Option (Int32 × St) :=
  bd ((0 : Int32)) fun (x1_8 : Int32) =>
  bd ((0 : Int32)) fun (x2_9 : Int32) =>
  fixF (fun _ _ _ => none) (f_X9_isBelowSomewhere_4 n  ) n S x1_8 x2_9
def f_X9_layWays_278 (n : Nat) (x1 : Int32) (x2 : Int32) (k141 : St → Int32 → Option (Int32 × St)) (k151 : St → Int32 → Option (Int32 × St)) (k161 : St → Int32 → Option (Int32 × St)) (S : St) (x3 : Int32) (t1 : Int32) (t2 : Int64) : Option (Int32 × St) :=
  if t1 < 0 ∨ 100 ≤ (t1).toNatClampNeg then none else
  bd (sL S 42 (t1).toNatClampNeg t2) fun (S_2 : St) =>
  bd (x3 + (1 : Int32)) fun (x3_3 : Int32) =>
  k161 S_2 x3_3
def f_X9_layWays_210 (n : Nat) (x1 : Int32) (x2 : Int32) (k141 : St → Int32 → Option (Int32 × St)) (k151 : St → Int32 → Option (Int32 × St)) (k161 : St → Int32 → Option (Int32 × St)) (S : St) (x3 : Int32) (t0 : Int32) : Option (Int32 × St) :=
  bd (t0) fun (x4_4 : Int32) =>
  if x4_4 = 0 then (
    if (((10 : Int32) * x2) + x3) < 0 ∨ 100 ≤ ((((10 : Int32) * x2) + x3)).toNatClampNeg then none else
    f_X9_layWays_278 n x1 x2 k141 k151 k161 S x3 ((((10 : Int32) * x2) + x3)) ((S.2 42 ((((10 : Int32) * x2) + x3)).toNatClampNeg))
  ) else (
    if (((10 : Int32) * x2) + x3) < 0 ∨ 100 ≤ ((((10 : Int32) * x2) + x3)).toNatClampNeg then none else
    if (((10 : Int32) * x2) + x1) < 0 ∨ 100 ≤ ((((10 : Int32) * x2) + x1)).toNatClampNeg then none else
    if (((10 : Int32) * x1) + x3) < 0 ∨ 100 ≤ ((((10 : Int32) * x1) + x3)).toNatClampNeg then none else
    bo (f_X9_least n S ((S.2 42 ((((10 : Int32) * x2) + x3)).toNatClampNeg)) (((S.2 42 ((((10 : Int32) * x2) + x1)).toNatClampNeg) + (S.2 42 ((((10 : Int32) * x1) + x3)).toNatClampNeg)))) fun (r_10 : Int64) (S_11 : St) =>
    f_X9_layWays_278 n x1 x2 k141 k151 k161 S_11 x3 ((((10 : Int32) * x2) + x3)) r_10
  )
def f_X9_layWays_209 (n : Nat) (x1 : Int32) (x2 : Int32) (k141 : St → Int32 → Option (Int32 × St)) (k151 : St → Int32 → Option (Int32 × St)) (k161 : St → Int32 → Option (Int32 × St)) (S : St) (x3 : Int32) : Option (Int32 × St) :=
  f_X9_layWays_210 n x1 x2 k141 k151 k161 S x3 ((0 : Int32))
def f_X9_layWays_161 (n : Nat) (x1 : Int32) (x2 : Int32) (k141 : St → Int32 → Option (Int32 × St)) (k151 : St → Int32 → Option (Int32 × St)) (k161 : St → Int32 → Option (Int32 × St)) (S : St) (x3 : Int32) : Option (Int32 × St) :=
  if (S.1 28 18) ≤ x3 then (
    bd (x2 + (1 : Int32)) fun (x2_14 : Int32) =>
    k151 S x2_14
  ) else (
    if (((10 : Int32) * x2) + x1) < 0 ∨ 100 ≤ ((((10 : Int32) * x2) + x1)).toNatClampNeg then none else
    if 0 ≤ (lg_cmp (S.2 42 ((((10 : Int32) * x2) + x1)).toNatClampNeg) (1152921504606846976 : Int64)) then (
      f_X9_layWays_209 n x1 x2 k141 k151 k161 S x3
    ) else (
      if (((10 : Int32) * x1) + x3) < 0 ∨ 100 ≤ ((((10 : Int32) * x1) + x3)).toNatClampNeg then none else
      if 0 ≤ (lg_cmp (S.2 42 ((((10 : Int32) * x1) + x3)).toNatClampNeg) (1152921504606846976 : Int64)) then (
        f_X9_layWays_209 n x1 x2 k141 k151 k161 S x3
      ) else (
        f_X9_layWays_210 n x1 x2 k141 k151 k161 S x3 ((1 : Int32))
      )
    )
  )
def f_X9_layWays_151 (n : Nat) (x1 : Int32) (k141 : St → Int32 → Option (Int32 × St)) (k151 : St → Int32 → Option (Int32 × St)) (S : St) (x2 : Int32) : Option (Int32 × St) :=
  if (S.1 28 18) ≤ x2 then (
    bo (f_X9_isBelowSomewhere n S ) fun (r_20 : Int32) (S_21 : St) =>
    if r_20 = 0 then (
      bd (x1 + (1 : Int32)) fun (x1_24 : Int32) =>
      k141 S_21 x1_24
    ) else (
      some ((1 : Int32), S_21)
    )
  ) else (
    bd ((0 : Int32)) fun (x3_25 : Int32) =>
    fixF (fun _ _ => none) (f_X9_layWays_161 n x1 x2 k141 k151) n S x3_25
  )
def f_X9_layWays_141 (n : Nat) (k141 : St → Int32 → Option (Int32 × St)) (S : St) (x1 : Int32) : Option (Int32 × St) :=
  if (S.1 28 18) ≤ x1 then (
    some ((0 : Int32), S)
  ) else (
    bd ((0 : Int32)) fun (x2_27 : Int32) =>
    fixF (fun _ _ => none) (f_X9_layWays_151 n x1 k141) n S x2_27
  )
def f_X9_layWays_132 (n : Nat) (k67 : St → Int32 → Option (Int32 × St)) (S : St) (x1 : Int32) (t1 : Int32) (t2 : Int64) : Option (Int32 × St) :=
  if t1 < 0 ∨ 100 ≤ (t1).toNatClampNeg then none else
  bd (sL S 42 (t1).toNatClampNeg t2) fun (S_29 : St) =>
  bd (x1 + (1 : Int32)) fun (x1_30 : Int32) =>
  k67 S_29 x1_30
def f_X9_layWays_67 (n : Nat) (k67 : St → Int32 → Option (Int32 × St)) (S : St) (x1 : Int32) : Option (Int32 × St) :=
  if (S.1 28 2) ≤ x1 then (
    bd ((0 : Int32)) fun (x1_32 : Int32) =>
    fixF (fun _ _ => none) (f_X9_layWays_141 n  ) n S x1_32
  ) else (
    if x1 < 0 ∨ 10 ≤ (x1).toNatClampNeg then none else
    if x1 < 0 ∨ 10 ≤ (x1).toNatClampNeg then none else
    bd ((((10 : Int32) * (S.1 38 (x1).toNatClampNeg)) + (S.1 39 (x1).toNatClampNeg))) fun (x2_35 : Int32) =>
    if x1 < 0 ∨ 10 ≤ (x1).toNatClampNeg then none else
    if (S.1 32 (x1).toNatClampNeg) = (2 : Int32) then (
      if x2_35 < 0 ∨ 100 ≤ (x2_35).toNatClampNeg then none else
      if x1 < 0 ∨ 10 ≤ (x1).toNatClampNeg then none else
      bo (f_X9_least n S ((S.2 42 (x2_35).toNatClampNeg)) (((S.1 33 (x1).toNatClampNeg)).toInt64)) fun (r_41 : Int64) (S_42 : St) =>
      f_X9_layWays_132 n  k67 S_42 x1 x2_35 r_41
    ) else (
      if x2_35 < 0 ∨ 100 ≤ (x2_35).toNatClampNeg then none else
      f_X9_layWays_132 n  k67 S x1 x2_35 ((S.2 42 (x2_35).toNatClampNeg))
    )
  )
def f_X9_layWays_52 (n : Nat) (x1 : Int32) (k2 : St → Int32 → Option (Int32 × St)) (k12 : St → Int32 → Option (Int32 × St)) (S : St) (x2 : Int32) (t1 : Int32) (t2 : Int64) : Option (Int32 × St) :=
  if t1 < 0 ∨ 100 ≤ (t1).toNatClampNeg then none else
  bd (sL S 42 (t1).toNatClampNeg t2) fun (S_45 : St) =>
  bd (x2 + (1 : Int32)) fun (x2_46 : Int32) =>
  k12 S_45 x2_46
def f_X9_layWays_12 (n : Nat) (x1 : Int32) (k2 : St → Int32 → Option (Int32 × St)) (k12 : St → Int32 → Option (Int32 × St)) (S : St) (x2 : Int32) : Option (Int32 × St) :=
  if (S.1 28 18) ≤ x2 then (
    bd (x1 + (1 : Int32)) fun (x1_48 : Int32) =>
    k2 S x1_48
  ) else (
    if x1 < 0 ∨ 10 ≤ (x1).toNatClampNeg then none else
    if x2 < 0 ∨ 10 ≤ (x2).toNatClampNeg then none else
    if (S.1 41 (x1).toNatClampNeg) = (S.1 41 (x2).toNatClampNeg) then (
      f_X9_layWays_52 n x1 k2 k12 S x2 ((((10 : Int32) * x1) + x2)) ((0 : Int64))
    ) else (
      f_X9_layWays_52 n x1 k2 k12 S x2 ((((10 : Int32) * x1) + x2)) ((1152921504606846976 : Int64))
    )
  )
def f_X9_layWays_2 (n : Nat) (k2 : St → Int32 → Option (Int32 × St)) (S : St) (x1 : Int32) : Option (Int32 × St) :=
  if (S.1 28 18) ≤ x1 then (
    bd ((0 : Int32)) fun (x1_53 : Int32) =>
    fixF (fun _ _ => none) (f_X9_layWays_67 n  ) n S x1_53
  ) else (
    bd ((0 : Int32)) fun (x2_54 : Int32) =>
    fixF (fun _ _ => none) (f_X9_layWays_12 n x1 k2) n S x2_54
  )
def f_X9_layWays (n : Nat) (S : St) : Option (Int32 × St) :=
  bd ((0 : Int32)) fun (x1_55 : Int32) =>
  fixF (fun _ _ => none) (f_X9_layWays_2 n  ) n S x1_55
def f_X9_joinTight_134 (n : Nat) (x2 : Int32) (k4 : St → Int32 → Int32 → Option (Int32 × St)) (k14 : St → Int32 → Int32 → Option (Int32 × St)) (S : St) (x1 : Int32) (x3 : Int32) : Option (Int32 × St) :=
  bd (x3 + (1 : Int32)) fun (x3_1 : Int32) =>
  k14 S x1 x3_1
def f_X9_joinTight_60 (n : Nat) (x2 : Int32) (k4 : St → Int32 → Int32 → Option (Int32 × St)) (k14 : St → Int32 → Int32 → Option (Int32 × St)) (S : St) (x1 : Int32) (x3 : Int32) (t0 : Int32) : Option (Int32 × St) :=
  bd (t0) fun (x4_2 : Int32) =>
  if x4_2 = 0 then (
    f_X9_joinTight_134 n x2 k4 k14 S x1 x3
  ) else (
    if x2 < 0 ∨ 10 ≤ (x2).toNatClampNeg then none else
    if x3 < 0 ∨ 10 ≤ (x3).toNatClampNeg then none else
    if (S.1 41 (x2).toNatClampNeg) = (S.1 41 (x3).toNatClampNeg) then (
      f_X9_joinTight_134 n x2 k4 k14 S x1 x3
    ) else (
      if (((10 : Int32) * x2) + x3) < 0 ∨ 100 ≤ ((((10 : Int32) * x2) + x3)).toNatClampNeg then none else
      if (((10 : Int32) * x3) + x2) < 0 ∨ 100 ≤ ((((10 : Int32) * x3) + x2)).toNatClampNeg then none else
      if (lg_cmp ((S.2 42 ((((10 : Int32) * x2) + x3)).toNatClampNeg) + (S.2 42 ((((10 : Int32) * x3) + x2)).toNatClampNeg)) (0 : Int64)) = 0 then (
        if (((10 : Int32) * x2) + x3) < 0 ∨ 100 ≤ ((((10 : Int32) * x2) + x3)).toNatClampNeg then none else
        if (lg_cmp (S.2 42 ((((10 : Int32) * x2) + x3)).toNatClampNeg) (0 : Int64)) = 0 then (
          bo (f_X9_join n S x2 x3) fun (_ : Unit) (S_13 : St) =>
          bd ((1 : Int32)) fun (x1_15 : Int32) =>
          f_X9_joinTight_134 n x2 k4 k14 S_13 x1_15 x3
        ) else (
          f_X9_joinTight_134 n x2 k4 k14 S x1 x3
        )
      ) else (
        f_X9_joinTight_134 n x2 k4 k14 S x1 x3
      )
    )
  )
def f_X9_joinTight_59 (n : Nat) (x2 : Int32) (k4 : St → Int32 → Int32 → Option (Int32 × St)) (k14 : St → Int32 → Int32 → Option (Int32 × St)) (S : St) (x1 : Int32) (x3 : Int32) : Option (Int32 × St) :=
  f_X9_joinTight_60 n x2 k4 k14 S x1 x3 ((0 : Int32))
def f_X9_joinTight_14 (n : Nat) (x2 : Int32) (k4 : St → Int32 → Int32 → Option (Int32 × St)) (k14 : St → Int32 → Int32 → Option (Int32 × St)) (S : St) (x1 : Int32) (x3 : Int32) : Option (Int32 × St) :=
  if x2 ≤ x3 then (
    bd (x2 + (1 : Int32)) fun (x2_17 : Int32) =>
    k4 S x1 x2_17
  ) else (
    if (((10 : Int32) * x2) + x3) < 0 ∨ 100 ≤ ((((10 : Int32) * x2) + x3)).toNatClampNeg then none else
    if 0 ≤ (lg_cmp (S.2 42 ((((10 : Int32) * x2) + x3)).toNatClampNeg) (1152921504606846976 : Int64)) then (
      f_X9_joinTight_59 n x2 k4 k14 S x1 x3
    ) else (
      if (((10 : Int32) * x3) + x2) < 0 ∨ 100 ≤ ((((10 : Int32) * x3) + x2)).toNatClampNeg then none else
      if 0 ≤ (lg_cmp (S.2 42 ((((10 : Int32) * x3) + x2)).toNatClampNeg) (1152921504606846976 : Int64)) then (
        f_X9_joinTight_59 n x2 k4 k14 S x1 x3
      ) else (
        f_X9_joinTight_60 n x2 k4 k14 S x1 x3 ((1 : Int32))
      )
    )
  )
def f_X9_joinTight_4 (n : Nat) (k4 : St → Int32 → Int32 → Option (Int32 × St)) (S : St) (x1 : Int32) (x2 : Int32) : Option (Int32 × St) :=
  if (S.1 28 18) ≤ x2 then (
    if ¬ (x1 = 0 ∨ x1 = 1) then none else
    some (x1, S)
  ) else (
    bd ((0 : Int32)) fun (x3_24 : Int32) =>
    fixF (fun _ _ _ => none) (f_X9_joinTight_14 n x2 k4) n S x1 x3_24
  )
def f_X9_joinTight (n : Nat) (S : St) : Option (Int32 × St) :=
  bd ((0 : Int32)) fun (x1_25 : Int32) =>
  bd ((0 : Int32)) fun (x2_26 : Int32) =>
  fixF (fun _ _ _ => none) (f_X9_joinTight_4 n  ) n S x1_25 x2_26
def f_X9_layExchange_183 (n : Nat) (k127 : St → Int32 → Option (Unit × St)) (S : St) (x2 : Int32) (t1 : Int32) : Option (Unit × St) :=
  if ¬ (t1 = 0 ∨ t1 = 1) then none else
  bd (sI S 28 27 t1) fun (S_1 : St) =>
  bd (x2 + (1 : Int32)) fun (x2_3 : Int32) =>
  k127 S_1 x2_3
def f_X9_layExchange_182 (n : Nat) (k127 : St → Int32 → Option (Unit × St)) (S : St) (x2 : Int32) : Option (Unit × St) :=
  f_X9_layExchange_183 n  k127 S x2 ((0 : Int32))
def f_X9_layExchange_178 (n : Nat) (k127 : St → Int32 → Option (Unit × St)) (S : St) (x2 : Int32) : Option (Unit × St) :=
  f_X9_layExchange_183 n  k127 S x2 ((1 : Int32))
def f_X9_layExchange_127 (n : Nat) (k127 : St → Int32 → Option (Unit × St)) (S : St) (x2 : Int32) : Option (Unit × St) :=
  if (S.1 28 2) ≤ x2 then (
    some ((), S)
  ) else (
    if (S.1 28 27) = 0 then (
      if x2 < 0 ∨ 10 ≤ (x2).toNatClampNeg then none else
      if (S.1 32 (x2).toNatClampNeg) = (1 : Int32) then (
        if x2 < 0 ∨ 10 ≤ (x2).toNatClampNeg then none else
        if (S.1 38 (x2).toNatClampNeg) < 0 ∨ 10 ≤ ((S.1 38 (x2).toNatClampNeg)).toNatClampNeg then none else
        if x2 < 0 ∨ 10 ≤ (x2).toNatClampNeg then none else
        if (S.1 39 (x2).toNatClampNeg) < 0 ∨ 10 ≤ ((S.1 39 (x2).toNatClampNeg)).toNatClampNeg then none else
        if (S.1 41 ((S.1 38 (x2).toNatClampNeg)).toNatClampNeg) = (S.1 41 ((S.1 39 (x2).toNatClampNeg)).toNatClampNeg) then (
          f_X9_layExchange_178 n  k127 S x2
        ) else (
          f_X9_layExchange_182 n  k127 S x2
        )
      ) else (
        f_X9_layExchange_182 n  k127 S x2
      )
    ) else (
      f_X9_layExchange_178 n  k127 S x2
    )
  )
def f_X9_layExchange_121 (n : Nat) (k76 : St → Int32 → Option (Unit × St)) (S : St) (t0 : Int32) : Option (Unit × St) :=
  bd (t0) fun (x1_13 : Int32) =>
  k76 S x1_13
def f_X9_layExchange_120 (n : Nat) (k76 : St → Int32 → Option (Unit × St)) (S : St) : Option (Unit × St) :=
  f_X9_layExchange_121 n  k76 S ((0 : Int32))
def f_X9_layExchange_76 (n : Nat) (k76 : St → Int32 → Option (Unit × St)) (S : St) (x1 : Int32) : Option (Unit × St) :=
  if x1 = 0 then (
    bd ((0 : Int32)) fun (x2_15 : Int32) =>
    fixF (fun _ _ => none) (f_X9_layExchange_127 n  ) n S x2_15
  ) else (
    bd (sI S 28 28 ((S.1 28 28) + (1 : Int32))) fun (S_16 : St) =>
    bo (f_X9_growSame n S_16 ) fun (_ : Unit) (S_18 : St) =>
    bo (f_X9_layWays n S_18 ) fun (r_20 : Int32) (S_21 : St) =>
    if ¬ (r_20 = 0 ∨ r_20 = 1) then none else
    bd (sI S_21 28 27 r_20) fun (S_23 : St) =>
    if (S_23.1 28 27) = 0 then (
      bo (f_X9_joinTight n S_23 ) fun (r_26 : Int32) (S_27 : St) =>
      if r_26 = 0 then (
        f_X9_layExchange_120 n  k76 S_27 
      ) else (
        f_X9_layExchange_121 n  k76 S_27 ((1 : Int32))
      )
    ) else (
      f_X9_layExchange_120 n  k76 S_23 
    )
  )
def f_X9_layExchange_68 (n : Nat) (k35 : St → Int32 → Option (Unit × St)) (S : St) (x1 : Int32) : Option (Unit × St) :=
  bd (x1 + (1 : Int32)) fun (x1_30 : Int32) =>
  k35 S x1_30
def f_X9_layExchange_35 (n : Nat) (k35 : St → Int32 → Option (Unit × St)) (S : St) (x1 : Int32) : Option (Unit × St) :=
  if (S.1 28 2) ≤ x1 then (
    bd ((1 : Int32)) fun (x1_32 : Int32) =>
    fixF (fun _ _ => none) (f_X9_layExchange_76 n  ) n S x1_32
  ) else (
    if x1 < 0 ∨ 10 ≤ (x1).toNatClampNeg then none else
    if (S.1 32 (x1).toNatClampNeg) = 0 then (
      if x1 < 0 ∨ 10 ≤ (x1).toNatClampNeg then none else
      if x1 < 0 ∨ 10 ≤ (x1).toNatClampNeg then none else
      bo (f_X9_join n S ((S.1 38 (x1).toNatClampNeg)) ((S.1 39 (x1).toNatClampNeg))) fun (_ : Unit) (S_38 : St) =>
      f_X9_layExchange_68 n  k35 S_38 x1
    ) else (
      f_X9_layExchange_68 n  k35 S x1
    )
  )
def f_X9_layExchange_12 (n : Nat) (k12 : St → Int32 → Option (Unit × St)) (S : St) (x1 : Int32) : Option (Unit × St) :=
  if (S.1 28 18) ≤ x1 then (
    bd ((0 : Int32)) fun (x1_41 : Int32) =>
    fixF (fun _ _ => none) (f_X9_layExchange_35 n  ) n S x1_41
  ) else (
    if x1 < 0 ∨ 10 ≤ (x1).toNatClampNeg then none else
    bd (sI S 41 (x1).toNatClampNeg x1) fun (S_43 : St) =>
    bd (x1 + (1 : Int32)) fun (x1_44 : Int32) =>
    k12 S_43 x1_44
  )
def f_X9_layExchange (n : Nat) (S : St) : Option (Unit × St) :=
  bd (sI S 28 28 (0 : Int32)) fun (S_45 : St) =>
  bd (sI S_45 28 27 (0 : Int32)) fun (S_46 : St) =>
  bd ((0 : Int32)) fun (x1_47 : Int32) =>
  fixF (fun _ _ => none) (f_X9_layExchange_12 n  ) n S_46 x1_47
def f_X9_sameSets_28 (n : Nat) (k4 : St → Int32 → Int32 → Option (Int32 × St)) (S : St) (x2 : Int32) (t0 : Int32) (t1 : Int32) : Option (Int32 × St) :=
  bd ((t0 + t1)) fun (x1_1 : Int32) =>
  bd (x2 + (1 : Int32)) fun (x2_2 : Int32) =>
  k4 S x1_1 x2_2
def f_X9_sameSets_4 (n : Nat) (k4 : St → Int32 → Int32 → Option (Int32 × St)) (S : St) (x1 : Int32) (x2 : Int32) : Option (Int32 × St) :=
  if (S.1 28 18) ≤ x2 then (
    some (x1, S)
  ) else (
    if x2 < 0 ∨ 10 ≤ (x2).toNatClampNeg then none else
    if (S.1 41 (x2).toNatClampNeg) = x2 then (
      f_X9_sameSets_28 n  k4 S x2 x1 ((1 : Int32))
    ) else (
      f_X9_sameSets_28 n  k4 S x2 x1 ((0 : Int32))
    )
  )
def f_X9_sameSets (n : Nat) (S : St) : Option (Int32 × St) :=
  bd ((0 : Int32)) fun (x1_6 : Int32) =>
  bd ((0 : Int32)) fun (x2_7 : Int32) =>
  fixF (fun _ _ _ => none) (f_X9_sameSets_4 n  ) n S x1_6 x2_7
def f_X9_exchangeNow (n : Nat) (S : St) (a1 : Int32) : Option (Int32 × St) :=
  bo (f_X9_layExchange n S ) fun (_ : Unit) (S_2 : St) =>
  if a1 = 0 then (
    if (S_2.1 28 27) = 0 then (
      some ((0 : Int32), S_2)
    ) else (
      some ((1 : Int32), S_2)
    )
  ) else (
    if a1 = (1 : Int32) then (
      some ((S_2.1 28 28), S_2)
    ) else (
      bo (f_X9_sameSets n S_2 ) fun (r_6 : Int32) (S_7 : St) =>
      some (r_6, S_7)
    )
  )
def f_X9_exchange (n : Nat) (S : St) (a1 : Int32) : Option (Int32 × St) :=
  bo (f_X9_within n S a1 (0 : Int32) (2 : Int32)) fun (r_1 : Int32) (S_2 : St) =>
  if r_1 = 0 then (
    some ((-2000000003 : Int32), S_2)
  ) else (
    bo (f_X9_exchangeNow n S_2 a1) fun (r_5 : Int32) (S_6 : St) =>
    some (r_5, S_6)
  )
def f_X9_areTerms (n : Nat) (S : St) (a1 : Int32) (a2 : Int32) : Option (Int32 × St) :=
  bo (f_X9_within n S a1 (0 : Int32) (((S.1 28 18) - (1 : Int32)))) fun (r_1 : Int32) (S_2 : St) =>
  if r_1 = 0 then (
    some ((0 : Int32), S_2)
  ) else (
    bo (f_X9_within n S_2 a2 (0 : Int32) (((S_2.1 28 18) - (1 : Int32)))) fun (r_5 : Int32) (S_6 : St) =>
    if r_5 = 0 then (
      some ((0 : Int32), S_6)
    ) else (
      some ((1 : Int32), S_6)
    )
  )
def f_X9_told_16 (n : Nat) (S : St) : Option (Int32 × St) :=
  some ((-2000000006 : Int32), S)
def f_X9_told (n : Nat) (S : St) (a0 : Int64) : Option (Int32 × St) :=
  if 0 < (lg_cmp a0 (2000000000 : Int64)) then (
    f_X9_told_16 n   S 
  ) else (
    if 0 ≤ (lg_cmp a0 (-2000000000 : Int64)) then (
      some ((a0).toInt32, S)
    ) else (
      f_X9_told_16 n   S 
    )
  )
def f_X9_far (n : Nat) (S : St) (a1 : Int32) (a2 : Int32) : Option (Int32 × St) :=
  bo (f_X9_areTerms n S a1 a2) fun (r_1 : Int32) (S_2 : St) =>
  if r_1 = 0 then (
    some ((-2000000002 : Int32), S_2)
  ) else (
    bo (f_X9_layExchange n S_2 ) fun (_ : Unit) (S_6 : St) =>
    if (S_6.1 28 27) = 0 then (
      if (((10 : Int32) * a1) + a2) < 0 ∨ 100 ≤ ((((10 : Int32) * a1) + a2)).toNatClampNeg then none else
      if (lg_cmp (S_6.2 42 ((((10 : Int32) * a1) + a2)).toNatClampNeg) (1152921504606846976 : Int64)) = 0 then (
        some ((-2000000001 : Int32), S_6)
      ) else (
        if (((10 : Int32) * a1) + a2) < 0 ∨ 100 ≤ ((((10 : Int32) * a1) + a2)).toNatClampNeg then none else
        bo (f_X9_told n S_6 ((S_6.2 42 ((((10 : Int32) * a1) + a2)).toNatClampNeg))) fun (r_12 : Int32) (S_13 : St) =>
        some (r_12, S_13)
      )
    ) else (
      some ((-2000000004 : Int32), S_6)
    )
  )
def f_X9_has (n : Nat) (S : St) (a0 : Int32) (a1 : Int32) : Option (Int32 × St) :=
  if ((a0 >>> (a1 &&& 31)) &&& (1 : Int32)) = (1 : Int32) then (
    some ((1 : Int32), S)
  ) else (
    some ((0 : Int32), S)
  )
def f_X9_bound_162 (n : Nat) (x2 : Int32) (x3 : Int32) (x4 : Int64) (x6 : Int32) (x9 : Int32) (k46 : St → Int32 → Option (Int32 × St)) (k58 : St → Int32 → Option (Int32 × St)) (S : St) (x10 : Int32) : Option (Int32 × St) :=
  bd (x10 + (1 : Int32)) fun (x10_1 : Int32) =>
  k58 S x10_1
def f_X9_bound_58 (n : Nat) (x2 : Int32) (x3 : Int32) (x4 : Int64) (x6 : Int32) (x9 : Int32) (k46 : St → Int32 → Option (Int32 × St)) (k58 : St → Int32 → Option (Int32 × St)) (S : St) (x10 : Int32) : Option (Int32 × St) :=
  if (S.1 28 18) ≤ x10 then (
    bd (x9 + (1 : Int32)) fun (x9_3 : Int32) =>
    k46 S x9_3
  ) else (
    if ((x6 + ((10 : Int32) * x9)) + x2) < 0 ∨ 6400 ≤ (((x6 + ((10 : Int32) * x9)) + x2)).toNatClampNeg then none else
    bd ((S.2 43 (((x6 + ((10 : Int32) * x9)) + x2)).toNatClampNeg)) fun (x11_5 : Int64) =>
    if ((x6 + ((10 : Int32) * x3)) + x10) < 0 ∨ 6400 ≤ (((x6 + ((10 : Int32) * x3)) + x10)).toNatClampNeg then none else
    bd ((S.2 43 (((x6 + ((10 : Int32) * x3)) + x10)).toNatClampNeg)) fun (x13_7 : Int64) =>
    if 0 ≤ (lg_cmp x11_5 (1152921504606846976 : Int64)) then (
      f_X9_bound_162 n x2 x3 x4 x6 x9 k46 k58 S x10
    ) else (
      if 0 ≤ (lg_cmp x13_7 (1152921504606846976 : Int64)) then (
        f_X9_bound_162 n x2 x3 x4 x6 x9 k46 k58 S x10
      ) else (
        if ((x6 + ((10 : Int32) * x9)) + x10) < 0 ∨ 6400 ≤ (((x6 + ((10 : Int32) * x9)) + x10)).toNatClampNeg then none else
        bo (f_X9_least n S ((S.2 43 (((x6 + ((10 : Int32) * x9)) + x10)).toNatClampNeg)) (((x11_5 + x4) + x13_7))) fun (r_11 : Int64) (S_12 : St) =>
        if ((x6 + ((10 : Int32) * x9)) + x10) < 0 ∨ 6400 ≤ (((x6 + ((10 : Int32) * x9)) + x10)).toNatClampNeg then none else
        bd (sL S_12 43 (((x6 + ((10 : Int32) * x9)) + x10)).toNatClampNeg r_11) fun (S_15 : St) =>
        f_X9_bound_162 n x2 x3 x4 x6 x9 k46 k58 S_15 x10
      )
    )
  )
def f_X9_bound_46 (n : Nat) (x2 : Int32) (x3 : Int32) (x4 : Int64) (x6 : Int32) (k46 : St → Int32 → Option (Int32 × St)) (S : St) (x9 : Int32) : Option (Int32 × St) :=
  if (S.1 28 18) ≤ x9 then (
    some ((1 : Int32), S)
  ) else (
    bd ((0 : Int32)) fun (x10_17 : Int32) =>
    fixF (fun _ _ => none) (f_X9_bound_58 n x2 x3 x4 x6 x9 k46) n S x10_17
  )
def f_X9_bound_43 (n : Nat) (S : St) (x2 : Int32) (x3 : Int32) (x4 : Int64) (x6 : Int32) : Option (Int32 × St) :=
  bd ((0 : Int32)) fun (x9_18 : Int32) =>
  fixF (fun _ _ => none) (f_X9_bound_46 n x2 x3 x4 x6 ) n S x9_18
def f_X9_bound (n : Nat) (S : St) (a1 : Int32) (a2 : Int32) (a3 : Int32) (a4 : Int64) : Option (Int32 × St) :=
  bd (((100 : Int32) * a1)) fun (x6_19 : Int32) =>
  if ((x6_19 + ((10 : Int32) * a3)) + a2) < 0 ∨ 6400 ≤ (((x6_19 + ((10 : Int32) * a3)) + a2)).toNatClampNeg then none else
  bd ((S.2 43 (((x6_19 + ((10 : Int32) * a3)) + a2)).toNatClampNeg)) fun (x7_21 : Int64) =>
  if 0 ≤ (lg_cmp x7_21 (1152921504606846976 : Int64)) then (
    f_X9_bound_43 n   S a2 a3 a4 x6_19
  ) else (
    if 0 ≤ (lg_cmp (x7_21 + a4) (0 : Int64)) then (
      f_X9_bound_43 n   S a2 a3 a4 x6_19
    ) else (
      some ((0 : Int32), S)
    )
  )
def f_X9_boundBoth (n : Nat) (S : St) (a1 : Int32) (a2 : Int32) (a3 : Int32) : Option (Int32 × St) :=
  bo (f_X9_bound n S a1 a2 a3 (0 : Int64)) fun (r_1 : Int32) (S_2 : St) =>
  if r_1 = 0 then (
    some ((0 : Int32), S_2)
  ) else (
    bo (f_X9_bound n S_2 a1 a3 a2 (0 : Int64)) fun (r_5 : Int32) (S_6 : St) =>
    if r_5 = 0 then (
      some ((0 : Int32), S_6)
    ) else (
      some ((1 : Int32), S_6)
    )
  )
def f_X9_boundLiteral (n : Nat) (S : St) (a1 : Int32) : Option (Int32 × St) :=
  bo (f_X9_has n S (S.1 28 31) a1) fun (r_1 : Int32) (S_2 : St) =>
  if r_1 = 0 then (
    some ((1 : Int32), S_2)
  ) else (
    if a1 < 0 ∨ 10 ≤ (a1).toNatClampNeg then none else
    if (S_2.1 32 (a1).toNatClampNeg) = (1 : Int32) then (
      some ((1 : Int32), S_2)
    ) else (
      if a1 < 0 ∨ 10 ≤ (a1).toNatClampNeg then none else
      if (S_2.1 32 (a1).toNatClampNeg) = 0 then (
        if a1 < 0 ∨ 10 ≤ (a1).toNatClampNeg then none else
        if a1 < 0 ∨ 10 ≤ (a1).toNatClampNeg then none else
        bo (f_X9_boundBoth n S_2 (0 : Int32) ((S_2.1 38 (a1).toNatClampNeg)) ((S_2.1 39 (a1).toNatClampNeg))) fun (r_18 : Int32) (S_19 : St) =>
        if ¬ (r_18 = 0 ∨ r_18 = 1) then none else
        some (r_18, S_19)
      ) else (
        if a1 < 0 ∨ 10 ≤ (a1).toNatClampNeg then none else
        if a1 < 0 ∨ 10 ≤ (a1).toNatClampNeg then none else
        if a1 < 0 ∨ 10 ≤ (a1).toNatClampNeg then none else
        bo (f_X9_bound n S_2 (0 : Int32) ((S_2.1 38 (a1).toNatClampNeg)) ((S_2.1 39 (a1).toNatClampNeg)) (((S_2.1 33 (a1).toNatClampNeg)).toInt64)) fun (r_12 : Int32) (S_13 : St) =>
        if ¬ (r_12 = 0 ∨ r_12 = 1) then none else
        some (r_12, S_13)
      )
    )
  )
def f_X9_layFirst_155 (n : Nat) (S : St) : Option (Int32 × St) :=
  some ((1 : Int32), S)
def f_X9_layFirst_123 (n : Nat) (S : St) (t0 : Int32) : Option (Int32 × St) :=
  bd (t0) fun (x1_1 : Int32) =>
  if x1_1 = 0 then (
    some ((0 : Int32), S)
  ) else (
    if (S.1 28 32) = (2 : Int32) then (
      bo (f_X9_bound n S (0 : Int32) (S.1 28 33) (S.1 28 34) (-1 : Int64)) fun (r_4 : Int32) (S_5 : St) =>
      if r_4 = 0 then (
        some ((0 : Int32), S_5)
      ) else (
        f_X9_layFirst_155 n   S_5 
      )
    ) else (
      f_X9_layFirst_155 n   S 
    )
  )
def f_X9_layFirst_122 (n : Nat) (S : St) : Option (Int32 × St) :=
  f_X9_layFirst_123 n   S ((0 : Int32))
def f_X9_layFirst_118 (n : Nat) (S : St) : Option (Int32 × St) :=
  f_X9_layFirst_123 n   S ((1 : Int32))
def f_X9_layFirst_84 (n : Nat) (k59 : St → Int32 → Int32 → Option (Int32 × St)) (S : St) (x2 : Int32) (t0 : Int32) : Option (Int32 × St) :=
  bd (t0) fun (x1_8 : Int32) =>
  bd (x2 + (1 : Int32)) fun (x2_9 : Int32) =>
  k59 S x1_8 x2_9
def f_X9_layFirst_83 (n : Nat) (k59 : St → Int32 → Int32 → Option (Int32 × St)) (S : St) (x2 : Int32) : Option (Int32 × St) :=
  f_X9_layFirst_84 n  k59 S x2 ((0 : Int32))
def f_X9_layFirst_59 (n : Nat) (k59 : St → Int32 → Int32 → Option (Int32 × St)) (S : St) (x1 : Int32) (x2 : Int32) : Option (Int32 × St) :=
  if (S.1 28 2) ≤ x2 then (
    if x1 = 0 then (
      f_X9_layFirst_122 n   S 
    ) else (
      if (S.1 28 32) = 0 then (
        bo (f_X9_boundBoth n S (0 : Int32) (S.1 28 33) (S.1 28 34)) fun (r_13 : Int32) (S_14 : St) =>
        if r_13 = 0 then (
          f_X9_layFirst_122 n   S_14 
        ) else (
          f_X9_layFirst_118 n   S_14 
        )
      ) else (
        f_X9_layFirst_118 n   S 
      )
    )
  ) else (
    if x1 = 0 then (
      f_X9_layFirst_83 n  k59 S x2
    ) else (
      bo (f_X9_boundLiteral n S x2) fun (r_18 : Int32) (S_19 : St) =>
      if r_18 = 0 then (
        f_X9_layFirst_83 n  k59 S_19 x2
      ) else (
        f_X9_layFirst_84 n  k59 S_19 x2 ((1 : Int32))
      )
    )
  )
def f_X9_layFirst_42 (n : Nat) (x1 : Int32) (k2 : St → Int32 → Option (Int32 × St)) (k12 : St → Int32 → Option (Int32 × St)) (S : St) (x2 : Int32) (t1 : Int32) (t2 : Int64) : Option (Int32 × St) :=
  if t1 < 0 ∨ 6400 ≤ (t1).toNatClampNeg then none else
  bd (sL S 43 (t1).toNatClampNeg t2) fun (S_23 : St) =>
  bd (x2 + (1 : Int32)) fun (x2_24 : Int32) =>
  k12 S_23 x2_24
def f_X9_layFirst_12 (n : Nat) (x1 : Int32) (k2 : St → Int32 → Option (Int32 × St)) (k12 : St → Int32 → Option (Int32 × St)) (S : St) (x2 : Int32) : Option (Int32 × St) :=
  if (S.1 28 18) ≤ x2 then (
    bd (x1 + (1 : Int32)) fun (x1_26 : Int32) =>
    k2 S x1_26
  ) else (
    if x1 = x2 then (
      f_X9_layFirst_42 n x1 k2 k12 S x2 ((((10 : Int32) * x1) + x2)) ((0 : Int64))
    ) else (
      f_X9_layFirst_42 n x1 k2 k12 S x2 ((((10 : Int32) * x1) + x2)) ((1152921504606846976 : Int64))
    )
  )
def f_X9_layFirst_2 (n : Nat) (k2 : St → Int32 → Option (Int32 × St)) (S : St) (x1 : Int32) : Option (Int32 × St) :=
  if (S.1 28 18) ≤ x1 then (
    bd ((1 : Int32)) fun (x1_29 : Int32) =>
    bd ((0 : Int32)) fun (x2_30 : Int32) =>
    fixF (fun _ _ _ => none) (f_X9_layFirst_59 n  ) n S x1_29 x2_30
  ) else (
    bd ((0 : Int32)) fun (x2_31 : Int32) =>
    fixF (fun _ _ => none) (f_X9_layFirst_12 n x1 k2) n S x2_31
  )
def f_X9_layFirst (n : Nat) (S : St) : Option (Int32 × St) :=
  bd ((0 : Int32)) fun (x1_32 : Int32) =>
  fixF (fun _ _ => none) (f_X9_layFirst_2 n  ) n S x1_32
def f_X9_fill_123 (n : Nat) (x1 : Int32) (k2 : St → Int32 → Option (Unit × St)) (S : St) (x2 : Int32) (t1 : Int32) (t2 : Int64) : Option (Unit × St) :=
  if t1 < 0 ∨ 640 ≤ (t1).toNatClampNeg then none else
  bd (sL S 44 (t1).toNatClampNeg t2) fun (S_2 : St) =>
  bd (x2 + (1 : Int32)) fun (x2_3 : Int32) =>
  k2 S_2 x2_3
def f_X9_fill_88 (n : Nat) (x1 : Int32) (k2 : St → Int32 → Option (Unit × St)) (S : St) (x2 : Int32) (x3 : Int64) (t0 : Int64) : Option (Unit × St) :=
  bd (t0) fun (x5_4 : Int64) =>
  if (S.1 28 38) = (-2000000001 : Int32) then (
    f_X9_fill_123 n x1 k2 S x2 ((((10 : Int32) * x1) + x2)) x3
  ) else (
    bo (f_X9_least n S x5_4 ((x3 + (1125899906842624 : Int64)))) fun (r_6 : Int64) (S_7 : St) =>
    f_X9_fill_123 n x1 k2 S_7 x2 ((((10 : Int32) * x1) + x2)) r_6
  )
def f_X9_fill_17 (n : Nat) (x1 : Int32) (x2 : Int32) (k2 : St → Int32 → Option (Unit × St)) (k17 : St → Int64 → Int32 → Option (Unit × St)) (S : St) (x3 : Int64) (x5 : Int32) : Option (Unit × St) :=
  if (S.1 28 18) ≤ x5 then (
    if (S.1 28 38) = (-2000000001 : Int32) then (
      f_X9_fill_88 n x1 k2 S x2 x3 ((1152921504606846976 : Int64))
    ) else (
      if ((((100 : Int32) * x1) + ((10 : Int32) * x2)) + (S.1 28 38)) < 0 ∨ 6400 ≤ (((((100 : Int32) * x1) + ((10 : Int32) * x2)) + (S.1 28 38))).toNatClampNeg then none else
      f_X9_fill_88 n x1 k2 S x2 x3 ((S.2 43 (((((100 : Int32) * x1) + ((10 : Int32) * x2)) + (S.1 28 38))).toNatClampNeg))
    )
  ) else (
    if ((((100 : Int32) * x1) + ((10 : Int32) * x2)) + x5) < 0 ∨ 6400 ≤ (((((100 : Int32) * x1) + ((10 : Int32) * x2)) + x5)).toNatClampNeg then none else
    bo (f_X9_least n S x3 ((S.2 43 (((((100 : Int32) * x1) + ((10 : Int32) * x2)) + x5)).toNatClampNeg))) fun (r_13 : Int64) (S_14 : St) =>
    bd (r_13) fun (x3_16 : Int64) =>
    bd (x5 + (1 : Int32)) fun (x5_17 : Int32) =>
    k17 S_14 x3_16 x5_17
  )
def f_X9_fill_2 (n : Nat) (x1 : Int32) (k2 : St → Int32 → Option (Unit × St)) (S : St) (x2 : Int32) : Option (Unit × St) :=
  if (S.1 28 18) ≤ x2 then (
    some ((), S)
  ) else (
    bd ((1152921504606846976 : Int64)) fun (x3_19 : Int64) =>
    bd ((0 : Int32)) fun (x5_20 : Int32) =>
    fixF (fun _ _ _ => none) (f_X9_fill_17 n x1 x2 k2) n S x3_19 x5_20
  )
def f_X9_fill (n : Nat) (S : St) (a1 : Int32) : Option (Unit × St) :=
  bd ((0 : Int32)) fun (x2_21 : Int32) =>
  fixF (fun _ _ => none) (f_X9_fill_2 n a1 ) n S x2_21
def f_X9_areEven (n : Nat) (S : St) (a1 : Int32) (a2 : Int32) (a3 : Int32) : Option (Int32 × St) :=
  if (((10 : Int32) * a1) + a2) < 0 ∨ 640 ≤ ((((10 : Int32) * a1) + a2)).toNatClampNeg then none else
  if (((10 : Int32) * a1) + a3) < 0 ∨ 640 ≤ ((((10 : Int32) * a1) + a3)).toNatClampNeg then none else
  if (lg_cmp (S.2 44 ((((10 : Int32) * a1) + a2)).toNatClampNeg) (S.2 44 ((((10 : Int32) * a1) + a3)).toNatClampNeg)) = 0 then (
    some ((1 : Int32), S)
  ) else (
    some ((0 : Int32), S)
  )
def f_X9_isBroken_96 (n : Nat) (S : St) : Option (Int32 × St) :=
  some ((1 : Int32), S)
def f_X9_isBroken_59 (n : Nat) (S : St) (x1 : Int32) (x2 : Int32) (x3 : Int32) (t0 : Int32) : Option (Int32 × St) :=
  bd (t0) fun (x4_1 : Int32) =>
  if x4_1 = 0 then (
    some ((0 : Int32), S)
  ) else (
    if x2 < 0 ∨ 64 ≤ (x2).toNatClampNeg then none else
    if (S.1 35 (x2).toNatClampNeg) = (1 : Int32) then (
      f_X9_isBroken_96 n   S 
    ) else (
      if x2 < 0 ∨ 64 ≤ (x2).toNatClampNeg then none else
      if x3 < 0 ∨ 64 ≤ (x3).toNatClampNeg then none else
      bo (f_X9_areEven n S x1 ((S.1 37 (x2).toNatClampNeg)) ((S.1 37 (x3).toNatClampNeg))) fun (r_7 : Int32) (S_8 : St) =>
      if r_7 = 0 then (
        some ((0 : Int32), S_8)
      ) else (
        f_X9_isBroken_96 n   S_8 
      )
    )
  )
def f_X9_isBroken_58 (n : Nat) (S : St) (x1 : Int32) (x2 : Int32) (x3 : Int32) : Option (Int32 × St) :=
  f_X9_isBroken_59 n   S x1 x2 x3 ((0 : Int32))
def f_X9_isBroken (n : Nat) (S : St) (a1 : Int32) (a2 : Int32) (a3 : Int32) : Option (Int32 × St) :=
  if a2 < 0 ∨ 64 ≤ (a2).toNatClampNeg then none else
  if (S.1 35 (a2).toNatClampNeg) ≤ 0 then (
    f_X9_isBroken_58 n   S a1 a2 a3
  ) else (
    if a2 < 0 ∨ 64 ≤ (a2).toNatClampNeg then none else
    if a3 < 0 ∨ 64 ≤ (a3).toNatClampNeg then none else
    if (S.1 35 (a2).toNatClampNeg) = (S.1 35 (a3).toNatClampNeg) then (
      bo (f_X9_areEven n S a1 a2 a3) fun (r_16 : Int32) (S_17 : St) =>
      if r_16 = 0 then (
        if a2 < 0 ∨ 64 ≤ (a2).toNatClampNeg then none else
        if a3 < 0 ∨ 64 ≤ (a3).toNatClampNeg then none else
        bo (f_X9_areEven n S_17 a1 ((S_17.1 36 (a2).toNatClampNeg)) ((S_17.1 36 (a3).toNatClampNeg))) fun (r_22 : Int32) (S_23 : St) =>
        if r_22 = 0 then (
          f_X9_isBroken_58 n   S_23 a1 a2 a3
        ) else (
          f_X9_isBroken_59 n   S_23 a1 a2 a3 ((1 : Int32))
        )
      ) else (
        f_X9_isBroken_58 n   S_17 a1 a2 a3
      )
    ) else (
      f_X9_isBroken_58 n   S a1 a2 a3
    )
  )
def f_X9_splits (n : Nat) (S : St) (a1 : Int32) (a2 : Int32) (a3 : Int32) (a4 : Int32) : Option (Int32 × St) :=
  if a1 < 0 ∨ 64 ≤ (a1).toNatClampNeg then none else
  bd (sI S 45 (a1).toNatClampNeg a2) fun (S_2 : St) =>
  if a1 < 0 ∨ 64 ≤ (a1).toNatClampNeg then none else
  bd (sI S_2 46 (a1).toNatClampNeg a3) fun (S_4 : St) =>
  if a1 < 0 ∨ 64 ≤ (a1).toNatClampNeg then none else
  bd (sI S_4 47 (a1).toNatClampNeg a4) fun (S_6 : St) =>
  some ((1 : Int32), S_6)
def f_X9_findsSplit_167 (n : Nat) (x1 : Int32) (x2 : Int32) (k157 : St → Int32 → Option (Int32 × St)) (k167 : St → Int32 → Option (Int32 × St)) (S : St) (x3 : Int32) : Option (Int32 × St) :=
  if x2 ≤ x3 then (
    bd (x2 + (1 : Int32)) fun (x2_2 : Int32) =>
    k157 S x2_2
  ) else (
    bo (f_X9_isBroken n S x1 x2 x3) fun (r_3 : Int32) (S_4 : St) =>
    if r_3 = 0 then (
      bd (x3 + (1 : Int32)) fun (x3_7 : Int32) =>
      k167 S_4 x3_7
    ) else (
      bo (f_X9_splits n S_4 x1 (1 : Int32) x2 x3) fun (r_8 : Int32) (S_9 : St) =>
      if ¬ (r_8 = 0 ∨ r_8 = 1) then none else
      some (r_8, S_9)
    )
  )
def f_X9_findsSplit_157 (n : Nat) (x1 : Int32) (k157 : St → Int32 → Option (Int32 × St)) (S : St) (x2 : Int32) : Option (Int32 × St) :=
  if (S.1 28 18) ≤ x2 then (
    some ((0 : Int32), S)
  ) else (
    bd ((5 : Int32)) fun (x3_13 : Int32) =>
    fixF (fun _ _ => none) (f_X9_findsSplit_167 n x1 x2 k157) n S x3_13
  )
def f_X9_findsSplit_155 (n : Nat) (S : St) (x1 : Int32) : Option (Int32 × St) :=
  bd ((5 : Int32)) fun (x2_14 : Int32) =>
  fixF (fun _ _ => none) (f_X9_findsSplit_157 n x1 ) n S x2_14
def f_X9_findsSplit_115 (n : Nat) (S : St) (x1 : Int32) : Option (Int32 × St) :=
  if (S.1 28 35) = (-2000000001 : Int32) then (
    f_X9_findsSplit_155 n   S x1
  ) else (
    bo (f_X9_areEven n S x1 (S.1 28 35) (S.1 28 36)) fun (r_16 : Int32) (S_17 : St) =>
    if r_16 = 0 then (
      f_X9_findsSplit_155 n   S_17 x1
    ) else (
      bo (f_X9_splits n S_17 x1 (0 : Int32) (S_17.1 28 35) (S_17.1 28 36)) fun (r_20 : Int32) (S_21 : St) =>
      if ¬ (r_20 = 0 ∨ r_20 = 1) then none else
      some (r_20, S_21)
    )
  )
def f_X9_findsSplit_70 (n : Nat) (x1 : Int32) (k2 : St → Int32 → Option (Int32 × St)) (S : St) (x2 : Int32) : Option (Int32 × St) :=
  bd (x2 + (1 : Int32)) fun (x2_24 : Int32) =>
  k2 S x2_24
def f_X9_findsSplit_2 (n : Nat) (x1 : Int32) (k2 : St → Int32 → Option (Int32 × St)) (S : St) (x2 : Int32) : Option (Int32 × St) :=
  if (S.1 28 2) ≤ x2 then (
    if (S.1 28 32) = (1 : Int32) then (
      bo (f_X9_areEven n S x1 (S.1 28 33) (S.1 28 34)) fun (r_27 : Int32) (S_28 : St) =>
      if r_27 = 0 then (
        f_X9_findsSplit_115 n   S_28 x1
      ) else (
        bo (f_X9_splits n S_28 x1 (0 : Int32) (S_28.1 28 33) (S_28.1 28 34)) fun (r_31 : Int32) (S_32 : St) =>
        if ¬ (r_31 = 0 ∨ r_31 = 1) then none else
        some (r_31, S_32)
      )
    ) else (
      f_X9_findsSplit_115 n   S x1
    )
  ) else (
    bo (f_X9_has n S (S.1 28 31) x2) fun (r_35 : Int32) (S_36 : St) =>
    if r_35 = 0 then (
      f_X9_findsSplit_70 n x1 k2 S_36 x2
    ) else (
      if x2 < 0 ∨ 10 ≤ (x2).toNatClampNeg then none else
      if (S_36.1 32 (x2).toNatClampNeg) = (1 : Int32) then (
        if x2 < 0 ∨ 10 ≤ (x2).toNatClampNeg then none else
        if x2 < 0 ∨ 10 ≤ (x2).toNatClampNeg then none else
        bo (f_X9_areEven n S_36 x1 ((S_36.1 38 (x2).toNatClampNeg)) ((S_36.1 39 (x2).toNatClampNeg))) fun (r_43 : Int32) (S_44 : St) =>
        if r_43 = 0 then (
          f_X9_findsSplit_70 n x1 k2 S_44 x2
        ) else (
          if x2 < 0 ∨ 10 ≤ (x2).toNatClampNeg then none else
          if x2 < 0 ∨ 10 ≤ (x2).toNatClampNeg then none else
          bo (f_X9_splits n S_44 x1 (0 : Int32) ((S_44.1 38 (x2).toNatClampNeg)) ((S_44.1 39 (x2).toNatClampNeg))) fun (r_49 : Int32) (S_50 : St) =>
          if ¬ (r_49 = 0 ∨ r_49 = 1) then none else
          some (r_49, S_50)
        )
      ) else (
        f_X9_findsSplit_70 n x1 k2 S_36 x2
      )
    )
  )
def f_X9_findsSplit (n : Nat) (S : St) (a1 : Int32) : Option (Int32 × St) :=
  bd ((0 : Int32)) fun (x2_53 : Int32) =>
  fixF (fun _ _ => none) (f_X9_findsSplit_2 n a1 ) n S x2_53
def f_X9_takesSide_191 (n : Nat) (S : St) (x1 : Int32) (x2 : Int32) (x5 : Int32) (t0 : Int32) : Option (Int32 × St) :=
  bd (t0) fun (x6_1 : Int32) =>
  if (x2 - x2 / (2 : Int32) * (2 : Int32)) = 0 then (
    bo (f_X9_bound n S ((x1 + (1 : Int32))) x5 x6_1 (-1 : Int64)) fun (r_7 : Int32) (S_8 : St) =>
    if ¬ (r_7 = 0 ∨ r_7 = 1) then none else
    some (r_7, S_8)
  ) else (
    bo (f_X9_bound n S ((x1 + (1 : Int32))) x6_1 x5 (-1 : Int64)) fun (r_3 : Int32) (S_4 : St) =>
    if ¬ (r_3 = 0 ∨ r_3 = 1) then none else
    some (r_3, S_4)
  )
def f_X9_takesSide_167 (n : Nat) (S : St) (x1 : Int32) (x2 : Int32) (x4 : Int32) (t0 : Int32) : Option (Int32 × St) :=
  bd (t0) fun (x5_11 : Int32) =>
  if (2 : Int32) ≤ x2 then (
    if x4 < 0 ∨ 64 ≤ (x4).toNatClampNeg then none else
    f_X9_takesSide_191 n   S x1 x2 x5_11 ((S.1 37 (x4).toNatClampNeg))
  ) else (
    if x4 < 0 ∨ 64 ≤ (x4).toNatClampNeg then none else
    f_X9_takesSide_191 n   S x1 x2 x5_11 ((S.1 36 (x4).toNatClampNeg))
  )
def f_X9_takesSide_147 (n : Nat) (S : St) (x1 : Int32) (x2 : Int32) (x3 : Int32) (x4 : Int32) : Option (Int32 × St) :=
  if (2 : Int32) ≤ x2 then (
    if x3 < 0 ∨ 64 ≤ (x3).toNatClampNeg then none else
    f_X9_takesSide_167 n   S x1 x2 x4 ((S.1 37 (x3).toNatClampNeg))
  ) else (
    if x3 < 0 ∨ 64 ≤ (x3).toNatClampNeg then none else
    f_X9_takesSide_167 n   S x1 x2 x4 ((S.1 36 (x3).toNatClampNeg))
  )
def f_X9_takesSide_18 (n : Nat) (x1 : Int32) (x2 : Int32) (x3 : Int32) (x4 : Int32) (k18 : St → Int32 → Option (Int32 × St)) (S : St) (x5 : Int32) : Option (Int32 × St) :=
  if (100 : Int32) ≤ x5 then (
    if x1 < 0 ∨ 64 ≤ (x1).toNatClampNeg then none else
    if (S.1 45 (x1).toNatClampNeg) = 0 then (
      if x2 = 0 then (
        bo (f_X9_bound n S ((x1 + (1 : Int32))) x3 x4 (-1 : Int64)) fun (r_35 : Int32) (S_36 : St) =>
        if ¬ (r_35 = 0 ∨ r_35 = 1) then none else
        some (r_35, S_36)
      ) else (
        if x2 = (1 : Int32) then (
          bo (f_X9_bound n S ((x1 + (1 : Int32))) x4 x3 (-1 : Int64)) fun (r_31 : Int32) (S_32 : St) =>
          if r_31 = 0 then (
            some ((0 : Int32), S_32)
          ) else (
            some ((1 : Int32), S_32)
          )
        ) else (
          some ((0 : Int32), S)
        )
      )
    ) else (
      if x2 = (4 : Int32) then (
        bo (f_X9_boundBoth n S ((x1 + (1 : Int32))) x3 x4) fun (r_25 : Int32) (S_26 : St) =>
        if ¬ (r_25 = 0 ∨ r_25 = 1) then none else
        some (r_25, S_26)
      ) else (
        if x2 ≤ (1 : Int32) then (
          f_X9_takesSide_147 n   S x1 x2 x3 x4
        ) else (
          if x3 < 0 ∨ 64 ≤ (x3).toNatClampNeg then none else
          if (S.1 35 (x3).toNatClampNeg) = (1 : Int32) then (
            some ((0 : Int32), S)
          ) else (
            f_X9_takesSide_147 n   S x1 x2 x3 x4
          )
        )
      )
    )
  ) else (
    if (((100 : Int32) * x1) + x5) < 0 ∨ 6400 ≤ ((((100 : Int32) * x1) + x5)).toNatClampNeg then none else
    if ((((100 : Int32) * x1) + (100 : Int32)) + x5) < 0 ∨ 6400 ≤ (((((100 : Int32) * x1) + (100 : Int32)) + x5)).toNatClampNeg then none else
    bd (sL S 43 (((((100 : Int32) * x1) + (100 : Int32)) + x5)).toNatClampNeg (S.2 43 ((((100 : Int32) * x1) + x5)).toNatClampNeg)) fun (S_41 : St) =>
    bd (x5 + (1 : Int32)) fun (x5_42 : Int32) =>
    k18 S_41 x5_42
  )
def f_X9_takesSide (n : Nat) (S : St) (a1 : Int32) (a2 : Int32) : Option (Int32 × St) :=
  if a1 < 0 ∨ 64 ≤ (a1).toNatClampNeg then none else
  bd ((S.1 46 (a1).toNatClampNeg)) fun (x3_44 : Int32) =>
  if a1 < 0 ∨ 64 ≤ (a1).toNatClampNeg then none else
  bd ((S.1 47 (a1).toNatClampNeg)) fun (x4_46 : Int32) =>
  bd ((0 : Int32)) fun (x5_47 : Int32) =>
  fixF (fun _ _ => none) (f_X9_takesSide_18 n a1 a2 x3_44 x4_46 ) n S x5_47
def f_X9_soughtBy (n : Nat) (S : St) (a1 : Int32) : Option (Int64 × St) :=
  if ((((100 : Int32) * a1) + ((10 : Int32) * (S.1 28 37))) + (S.1 28 38)) < 0 ∨ 6400 ≤ (((((100 : Int32) * a1) + ((10 : Int32) * (S.1 28 37))) + (S.1 28 38))).toNatClampNeg then none else
  some ((S.2 43 (((((100 : Int32) * a1) + ((10 : Int32) * (S.1 28 37))) + (S.1 28 38))).toNatClampNeg), S)
def f_X9_isDone_23 (n : Nat) (S : St) : Option (Int32 × St) :=
  some ((1 : Int32), S)
def f_X9_isDone (n : Nat) (S : St) : Option (Int32 × St) :=
  if (S.1 28 40) = 0 then (
    if (S.1 28 39) = 0 then (
      some ((0 : Int32), S)
    ) else (
      if (S.1 28 38) = (-2000000001 : Int32) then (
        f_X9_isDone_23 n   S 
      ) else (
        some ((0 : Int32), S)
      )
    )
  ) else (
    f_X9_isDone_23 n   S 
  )
def f_X9_opens_100 (n : Nat) (S : St) (t1 : Int64) : Option (Int32 × St) :=
  bd (sL S 28 41 t1) fun (S_1 : St) =>
  some ((0 : Int32), S_1)
def f_X9_opens_78 (n : Nat) (S : St) (x1 : Int32) (t1 : Int32) : Option (Int32 × St) :=
  if ¬ (t1 = 0 ∨ t1 = 1) then none else
  bd (sI S 28 40 t1) fun (S_2 : St) =>
  if (S_2.1 28 38) = (-2000000001 : Int32) then (
    f_X9_opens_100 n   S_2 ((0 : Int64))
  ) else (
    bo (f_X9_soughtBy n S_2 x1) fun (r_5 : Int64) (S_6 : St) =>
    f_X9_opens_100 n   S_6 r_5
  )
def f_X9_opens_77 (n : Nat) (S : St) (x1 : Int32) : Option (Int32 × St) :=
  f_X9_opens_78 n   S x1 ((0 : Int32))
def f_X9_opens_31 (n : Nat) (S : St) (x1 : Int32) : Option (Int32 × St) :=
  bo (f_X9_fill n S x1) fun (_ : Unit) (S_9 : St) =>
  bo (f_X9_findsSplit n S_9 x1) fun (r_11 : Int32) (S_12 : St) =>
  if r_11 = 0 then (
    bd (sI S_12 28 39 (1 : Int32)) fun (S_15 : St) =>
    if (S_15.1 28 38) = (-2000000001 : Int32) then (
      f_X9_opens_77 n   S_15 x1
    ) else (
      bo (f_X9_soughtBy n S_15 x1) fun (r_17 : Int64) (S_18 : St) =>
      if (lg_cmp r_17 (1152921504606846976 : Int64)) = 0 then (
        f_X9_opens_78 n   S_18 x1 ((1 : Int32))
      ) else (
        f_X9_opens_77 n   S_18 x1
      )
    )
  ) else (
    some ((1 : Int32), S_12)
  )
def f_X9_opens (n : Nat) (S : St) (a1 : Int32) : Option (Int32 × St) :=
  if (S.1 28 38) = (-2000000001 : Int32) then (
    f_X9_opens_31 n   S a1
  ) else (
    if (S.1 28 39) = 0 then (
      f_X9_opens_31 n   S a1
    ) else (
      bo (f_X9_soughtBy n S a1) fun (r_23 : Int64) (S_24 : St) =>
      if 0 < (lg_cmp r_23 (S_24.2 28 41)) then (
        f_X9_opens_31 n   S_24 a1
      ) else (
        some ((0 : Int32), S_24)
      )
    )
  )
def f_X9_explore_107 (n : Nat) (k10 : St → Int32 → Option (Unit × St)) (S : St) (x1 : Int32) : Option (Unit × St) :=
  k10 S x1
def f_X9_explore_50 (n : Nat) (k10 : St → Int32 → Option (Unit × St)) (S : St) (x1 : Int32) (t1 : Int32) (t2 : Int32) : Option (Unit × St) :=
  if t1 < 0 ∨ 65 ≤ (t1).toNatClampNeg then none else
  bd (sI S 48 (t1).toNatClampNeg t2) fun (S_2 : St) =>
  k10 S_2 x1
def f_X9_explore_10 (n : Nat) (k10 : St → Int32 → Option (Unit × St)) (S : St) (x1 : Int32) : Option (Unit × St) :=
  if x1 < 0 then (
    some ((), S)
  ) else (
    bo (f_X9_isDone n S ) fun (r_4 : Int32) (S_5 : St) =>
    if r_4 = 0 then (
      if x1 < 0 ∨ 65 ≤ (x1).toNatClampNeg then none else
      if (S_5.1 48 (x1).toNatClampNeg) = (-2000000001 : Int32) then (
        bo (f_X9_opens n S_5 x1) fun (r_25 : Int32) (S_26 : St) =>
        if r_25 = 0 then (
          f_X9_explore_50 n  k10 S_26 x1 x1 ((5 : Int32))
        ) else (
          f_X9_explore_50 n  k10 S_26 x1 x1 ((0 : Int32))
        )
      ) else (
        if x1 < 0 ∨ 65 ≤ (x1).toNatClampNeg then none else
        if (S_5.1 48 (x1).toNatClampNeg) ≤ (4 : Int32) then (
          if x1 < 0 ∨ 65 ≤ (x1).toNatClampNeg then none else
          bo (f_X9_takesSide n S_5 x1 ((S_5.1 48 (x1).toNatClampNeg))) fun (r_13 : Int32) (S_14 : St) =>
          bd (r_13) fun (x2_16 : Int32) =>
          if x1 < 0 ∨ 65 ≤ (x1).toNatClampNeg then none else
          if x1 < 0 ∨ 65 ≤ (x1).toNatClampNeg then none else
          bd (sI S_14 48 (x1).toNatClampNeg ((S_14.1 48 (x1).toNatClampNeg) + (1 : Int32))) fun (S_19 : St) =>
          if x2_16 = 0 then (
            f_X9_explore_107 n  k10 S_19 x1
          ) else (
            bd (x1 + (1 : Int32)) fun (x1_21 : Int32) =>
            if x1_21 < 0 ∨ 65 ≤ (x1_21).toNatClampNeg then none else
            bd (sI S_19 48 (x1_21).toNatClampNeg (-2000000001 : Int32)) fun (S_23 : St) =>
            f_X9_explore_107 n  k10 S_23 x1_21
          )
        ) else (
          bd (x1 + (-1 : Int32)) fun (x1_24 : Int32) =>
          k10 S_5 x1_24
        )
      )
    ) else (
      some ((), S_5)
    )
  )
def f_X9_explore (n : Nat) (S : St) : Option (Unit × St) :=
  bd ((0 : Int32)) fun (x1_29 : Int32) =>
  if (0 : Int32) < 0 ∨ 65 ≤ ((0 : Int32)).toNatClampNeg then none else
  bd (sI S 48 ((0 : Int32)).toNatClampNeg (-2000000001 : Int32)) fun (S_31 : St) =>
  fixF (fun _ _ => none) (f_X9_explore_10 n  ) n S_31 x1_29
def f_X9_seek (n : Nat) (S : St) (a1 : Int32) : Option (Unit × St) :=
  bd (sI S 28 31 a1) fun (S_1 : St) =>
  bd (sI S_1 28 39 (0 : Int32)) fun (S_2 : St) =>
  bd (sI S_2 28 40 (0 : Int32)) fun (S_3 : St) =>
  bd (sL S_3 28 41 (0 : Int64)) fun (S_4 : St) =>
  bo (f_X9_layFirst n S_4 ) fun (r_5 : Int32) (S_6 : St) =>
  if r_5 = 0 then (
    some ((), S_6)
  ) else (
    bo (f_X9_explore n S_6 ) fun (_ : Unit) (S_10 : St) =>
    some ((), S_10)
  )
def f_X9_asksPlain (n : Nat) (S : St) : Option (Unit × St) :=
  bd (sI S 28 32 (-2000000001 : Int32)) fun (S_1 : St) =>
  bd (sI S_1 28 35 (-2000000001 : Int32)) fun (S_2 : St) =>
  bd (sI S_2 28 37 (-2000000001 : Int32)) fun (S_3 : St) =>
  bd (sI S_3 28 38 (-2000000001 : Int32)) fun (S_4 : St) =>
  some ((), S_4)
def f_X9_all (n : Nat) (S : St) : Option (Int32 × St) :=
  some ((((1 : Int32) <<< ((S.1 28 2) &&& 31)) - (1 : Int32)), S)
def f_X9_holdsWith (n : Nat) (S : St) (a1 : Int32) : Option (Int32 × St) :=
  bo (f_X9_asksPlain n S ) fun (_ : Unit) (S_2 : St) =>
  bo (f_X9_seek n S_2 a1) fun (_ : Unit) (S_5 : St) =>
  if ¬ ((S_5.1 28 39) = 0 ∨ (S_5.1 28 39) = 1) then none else
  some ((S_5.1 28 39), S_5)
def f_X9_holdsMore (n : Nat) (S : St) (a1 : Int32) (a2 : Int32) (a3 : Int32) : Option (Int32 × St) :=
  bo (f_X9_asksPlain n S ) fun (_ : Unit) (S_2 : St) =>
  bd (sI S_2 28 32 a1) fun (S_4 : St) =>
  bd (sI S_4 28 33 a2) fun (S_5 : St) =>
  bd (sI S_5 28 34 a3) fun (S_6 : St) =>
  bo (f_X9_all n S_6 ) fun (r_7 : Int32) (S_8 : St) =>
  bo (f_X9_seek n S_8 r_7) fun (_ : Unit) (S_11 : St) =>
  if ¬ ((S_11.1 28 39) = 0 ∨ (S_11.1 28 39) = 1) then none else
  some ((S_11.1 28 39), S_11)
def f_X9_holds (n : Nat) (S : St) : Option (Int32 × St) :=
  bo (f_X9_all n S ) fun (r_1 : Int32) (S_2 : St) =>
  bo (f_X9_holdsWith n S_2 r_1) fun (r_4 : Int32) (S_5 : St) =>
  if r_4 = 0 then (
    some ((0 : Int32), S_5)
  ) else (
    some ((1 : Int32), S_5)
  )
def f_X9_apartNow (n : Nat) (S : St) (a1 : Int32) (a2 : Int32) : Option (Int32 × St) :=
  bo (f_X9_asksPlain n S ) fun (_ : Unit) (S_2 : St) =>
  bd (sI S_2 28 37 a1) fun (S_4 : St) =>
  bd (sI S_4 28 38 a2) fun (S_5 : St) =>
  bo (f_X9_all n S_5 ) fun (r_6 : Int32) (S_7 : St) =>
  bo (f_X9_seek n S_7 r_6) fun (_ : Unit) (S_10 : St) =>
  if (S_10.1 28 39) = 0 then (
    some ((-2000000004 : Int32), S_10)
  ) else (
    if (S_10.1 28 40) = 0 then (
      bo (f_X9_told n S_10 (S_10.2 28 41)) fun (r_14 : Int32) (S_15 : St) =>
      some (r_14, S_15)
    ) else (
      some ((-2000000001 : Int32), S_10)
    )
  )
def f_X9_apart (n : Nat) (S : St) (a1 : Int32) (a2 : Int32) : Option (Int32 × St) :=
  bo (f_X9_areTerms n S a1 a2) fun (r_1 : Int32) (S_2 : St) =>
  if r_1 = 0 then (
    some ((-2000000002 : Int32), S_2)
  ) else (
    bo (f_X9_apartNow n S_2 a1 a2) fun (r_5 : Int32) (S_6 : St) =>
    some (r_5, S_6)
  )
def f_X9_impliedNow_50 (n : Nat) (S : St) (t0 : Int32) : Option (Int32 × St) :=
  bd (t0) fun (x4_1 : Int32) =>
  if x4_1 = 0 then (
    some ((1 : Int32), S)
  ) else (
    some ((0 : Int32), S)
  )
def f_X9_impliedNow (n : Nat) (S : St) (a1 : Int32) (a2 : Int32) (a3 : Int32) : Option (Int32 × St) :=
  bo (f_X9_all n S ) fun (r_3 : Int32) (S_4 : St) =>
  bo (f_X9_holdsWith n S_4 r_3) fun (r_6 : Int32) (S_7 : St) =>
  if r_6 = 0 then (
    some ((-2000000004 : Int32), S_7)
  ) else (
    if a3 = 0 then (
      bo (f_X9_holdsMore n S_7 (1 : Int32) a1 a2) fun (r_18 : Int32) (S_19 : St) =>
      f_X9_impliedNow_50 n   S_19 r_18
    ) else (
      if a3 = (1 : Int32) then (
        bo (f_X9_holdsMore n S_7 (0 : Int32) a1 a2) fun (r_15 : Int32) (S_16 : St) =>
        f_X9_impliedNow_50 n   S_16 r_15
      ) else (
        bo (f_X9_holdsMore n S_7 (2 : Int32) a2 a1) fun (r_12 : Int32) (S_13 : St) =>
        f_X9_impliedNow_50 n   S_13 r_12
      )
    )
  )
def f_X9_implied (n : Nat) (S : St) (a1 : Int32) (a2 : Int32) (a3 : Int32) : Option (Int32 × St) :=
  bo (f_X9_areTerms n S a1 a2) fun (r_1 : Int32) (S_2 : St) =>
  if r_1 = 0 then (
    some ((-2000000002 : Int32), S_2)
  ) else (
    bo (f_X9_within n S_2 a3 (0 : Int32) (2 : Int32)) fun (r_5 : Int32) (S_6 : St) =>
    if r_5 = 0 then (
      some ((-2000000003 : Int32), S_6)
    ) else (
      bo (f_X9_impliedNow n S_6 a1 a2 a3) fun (r_9 : Int32) (S_10 : St) =>
      some (r_9, S_10)
    )
  )
def f_X9_whyNow_41 (n : Nat) (k12 : St → Int32 → Int32 → Option (Int32 × St)) (S : St) (x2 : Int32) (t0 : Int32) : Option (Int32 × St) :=
  bd (t0) fun (x1_1 : Int32) =>
  bd (x2 + (-1 : Int32)) fun (x2_2 : Int32) =>
  k12 S x1_1 x2_2
def f_X9_whyNow_12 (n : Nat) (k12 : St → Int32 → Int32 → Option (Int32 × St)) (S : St) (x1 : Int32) (x2 : Int32) : Option (Int32 × St) :=
  if x2 < 0 then (
    some (x1, S)
  ) else (
    bo (f_X9_holdsWith n S ((x1 &&& (((1 : Int32) <<< (x2 &&& 31)) ^^^ (-1 : Int32))))) fun (r_4 : Int32) (S_5 : St) =>
    if r_4 = 0 then (
      f_X9_whyNow_41 n  k12 S_5 x2 ((x1 &&& (((1 : Int32) <<< (x2 &&& 31)) ^^^ (-1 : Int32))))
    ) else (
      f_X9_whyNow_41 n  k12 S_5 x2 x1
    )
  )
def f_X9_whyNow (n : Nat) (S : St) : Option (Int32 × St) :=
  bo (f_X9_all n S ) fun (r_8 : Int32) (S_9 : St) =>
  bd (r_8) fun (x1_11 : Int32) =>
  bd (((S_9.1 28 2) - (1 : Int32))) fun (x2_12 : Int32) =>
  fixF (fun _ _ _ => none) (f_X9_whyNow_12 n  ) n S_9 x1_11 x2_12
def f_X9_why (n : Nat) (S : St) : Option (Int32 × St) :=
  bo (f_X9_all n S ) fun (r_1 : Int32) (S_2 : St) =>
  bo (f_X9_holdsWith n S_2 r_1) fun (r_4 : Int32) (S_5 : St) =>
  if r_4 = 0 then (
    bo (f_X9_whyNow n S_5 ) fun (r_8 : Int32) (S_9 : St) =>
    some (r_8, S_9)
  ) else (
    some ((-2000000004 : Int32), S_5)
  )
def f_X9_canBothBeUnlike (n : Nat) (S : St) (a1 : Int32) (a2 : Int32) : Option (Int32 × St) :=
  bo (f_X9_asksPlain n S ) fun (_ : Unit) (S_2 : St) =>
  bd (sI S_2 28 32 (1 : Int32)) fun (S_4 : St) =>
  bd (sI S_4 28 33 (a1 / (10 : Int32))) fun (S_5 : St) =>
  bd (sI S_5 28 34 (a1 - a1 / (10 : Int32) * (10 : Int32))) fun (S_6 : St) =>
  bd (sI S_6 28 35 (a2 / (10 : Int32))) fun (S_7 : St) =>
  bd (sI S_7 28 36 (a2 - a2 / (10 : Int32) * (10 : Int32))) fun (S_8 : St) =>
  bo (f_X9_all n S_8 ) fun (r_9 : Int32) (S_10 : St) =>
  bo (f_X9_seek n S_10 r_9) fun (_ : Unit) (S_13 : St) =>
  if ¬ ((S_13.1 28 39) = 0 ∨ (S_13.1 28 39) = 1) then none else
  some ((S_13.1 28 39), S_13)
def f_X9_eitherNow_105 (n : Nat) (x1 : Int32) (x2 : Int32) (k2 : St → Int32 → Option (Int32 × St)) (k12 : St → Int32 → Option (Int32 × St)) (S : St) (x3 : Int32) : Option (Int32 × St) :=
  bd (x3 + (1 : Int32)) fun (x3_1 : Int32) =>
  k12 S x3_1
def f_X9_eitherNow_61 (n : Nat) (x1 : Int32) (x2 : Int32) (k2 : St → Int32 → Option (Int32 × St)) (k12 : St → Int32 → Option (Int32 × St)) (S : St) (x3 : Int32) (t0 : Int32) : Option (Int32 × St) :=
  bd (t0) fun (x4_2 : Int32) =>
  if x4_2 = 0 then (
    f_X9_eitherNow_105 n x1 x2 k2 k12 S x3
  ) else (
    bo (f_X9_canBothBeUnlike n S x2 x3) fun (r_4 : Int32) (S_5 : St) =>
    if r_4 = 0 then (
      bo (f_X9_canBothBeUnlike n S_5 x2 x2) fun (r_8 : Int32) (S_9 : St) =>
      if r_8 = 0 then (
        f_X9_eitherNow_105 n x1 x2 k2 k12 S_9 x3
      ) else (
        bo (f_X9_canBothBeUnlike n S_9 x3 x3) fun (r_12 : Int32) (S_13 : St) =>
        if r_12 = 0 then (
          f_X9_eitherNow_105 n x1 x2 k2 k12 S_13 x3
        ) else (
          if x1 = 0 then (
            some (x2, S_13)
          ) else (
            some (x3, S_13)
          )
        )
      )
    ) else (
      f_X9_eitherNow_105 n x1 x2 k2 k12 S_5 x3
    )
  )
def f_X9_eitherNow_60 (n : Nat) (x1 : Int32) (x2 : Int32) (k2 : St → Int32 → Option (Int32 × St)) (k12 : St → Int32 → Option (Int32 × St)) (S : St) (x3 : Int32) : Option (Int32 × St) :=
  f_X9_eitherNow_61 n x1 x2 k2 k12 S x3 ((0 : Int32))
def f_X9_eitherNow_12 (n : Nat) (x1 : Int32) (x2 : Int32) (k2 : St → Int32 → Option (Int32 × St)) (k12 : St → Int32 → Option (Int32 × St)) (S : St) (x3 : Int32) : Option (Int32 × St) :=
  if (50 : Int32) ≤ x3 then (
    bd (x2 + (1 : Int32)) fun (x2_18 : Int32) =>
    k2 S x2_18
  ) else (
    if (x2 - x2 / (10 : Int32) * (10 : Int32)) ≤ (x2 / (10 : Int32)) then (
      f_X9_eitherNow_60 n x1 x2 k2 k12 S x3
    ) else (
      if (5 : Int32) ≤ (x2 - x2 / (10 : Int32) * (10 : Int32)) then (
        f_X9_eitherNow_60 n x1 x2 k2 k12 S x3
      ) else (
        if (x3 - x3 / (10 : Int32) * (10 : Int32)) ≤ (x3 / (10 : Int32)) then (
          f_X9_eitherNow_60 n x1 x2 k2 k12 S x3
        ) else (
          if (5 : Int32) ≤ (x3 - x3 / (10 : Int32) * (10 : Int32)) then (
            f_X9_eitherNow_60 n x1 x2 k2 k12 S x3
          ) else (
            f_X9_eitherNow_61 n x1 x2 k2 k12 S x3 ((1 : Int32))
          )
        )
      )
    )
  )
def f_X9_eitherNow_2 (n : Nat) (x1 : Int32) (k2 : St → Int32 → Option (Int32 × St)) (S : St) (x2 : Int32) : Option (Int32 × St) :=
  if (50 : Int32) ≤ x2 then (
    some ((-2000000001 : Int32), S)
  ) else (
    bd ((x2 + (1 : Int32))) fun (x3_24 : Int32) =>
    fixF (fun _ _ => none) (f_X9_eitherNow_12 n x1 x2 k2) n S x3_24
  )
def f_X9_eitherNow (n : Nat) (S : St) (a1 : Int32) : Option (Int32 × St) :=
  bd ((1 : Int32)) fun (x2_25 : Int32) =>
  fixF (fun _ _ => none) (f_X9_eitherNow_2 n a1 ) n S x2_25
def f_X9_either (n : Nat) (S : St) (a1 : Int32) : Option (Int32 × St) :=
  bo (f_X9_within n S a1 (0 : Int32) (1 : Int32)) fun (r_1 : Int32) (S_2 : St) =>
  if r_1 = 0 then (
    some ((-2000000003 : Int32), S_2)
  ) else (
    bo (f_X9_all n S_2 ) fun (r_5 : Int32) (S_6 : St) =>
    bo (f_X9_holdsWith n S_6 r_5) fun (r_8 : Int32) (S_9 : St) =>
    if r_8 = 0 then (
      some ((-2000000004 : Int32), S_9)
    ) else (
      if (S_9.1 28 9) = (12 : Int32) then (
        some ((-2000000004 : Int32), S_9)
      ) else (
        bd (sI S_9 28 9 ((S_9.1 28 9) + (1 : Int32))) fun (S_13 : St) =>
        bo (f_X9_eitherNow n S_13 a1) fun (r_14 : Int32) (S_15 : St) =>
        some (r_14, S_15)
      )
    )
  )
def f_X9_literalNow (n : Nat) (S : St) (a1 : Int32) (a2 : Int32) : Option (Int32 × St) :=
  if a2 = 0 then (
    if a1 < 0 ∨ 10 ≤ (a1).toNatClampNeg then none else
    some ((S.1 32 (a1).toNatClampNeg), S)
  ) else (
    if a2 = (1 : Int32) then (
      if a1 < 0 ∨ 10 ≤ (a1).toNatClampNeg then none else
      some ((S.1 38 (a1).toNatClampNeg), S)
    ) else (
      if a2 = (2 : Int32) then (
        if a1 < 0 ∨ 10 ≤ (a1).toNatClampNeg then none else
        some ((S.1 39 (a1).toNatClampNeg), S)
      ) else (
        if a1 < 0 ∨ 10 ≤ (a1).toNatClampNeg then none else
        some ((S.1 33 (a1).toNatClampNeg), S)
      )
    )
  )
def f_X9_literal (n : Nat) (S : St) (a1 : Int32) (a2 : Int32) : Option (Int32 × St) :=
  bo (f_X9_isLiteral n S a1) fun (r_1 : Int32) (S_2 : St) =>
  if r_1 = 0 then (
    some ((-2000000002 : Int32), S_2)
  ) else (
    bo (f_X9_within n S_2 a2 (0 : Int32) (3 : Int32)) fun (r_5 : Int32) (S_6 : St) =>
    if r_5 = 0 then (
      some ((-2000000003 : Int32), S_6)
    ) else (
      bo (f_X9_literalNow n S_6 a1 a2) fun (r_9 : Int32) (S_10 : St) =>
      some (r_9, S_10)
    )
  )
def f_X9_lettersIn_76 (n : Nat) (x1 : Int32) (k2 : St → Int32 → Option (Int32 × St)) (S : St) (x2 : Int32) (t1 : Int32) (t2 : Int32) : Option (Int32 × St) :=
  if t1 < 0 ∨ 10 ≤ (t1).toNatClampNeg then none else
  bd (sI S 49 (t1).toNatClampNeg t2) fun (S_2 : St) =>
  bd (x2 + (1 : Int32)) fun (x2_3 : Int32) =>
  k2 S_2 x2_3
def f_X9_lettersIn_2 (n : Nat) (x1 : Int32) (k2 : St → Int32 → Option (Int32 × St)) (S : St) (x2 : Int32) : Option (Int32 × St) :=
  if x1 < x2 then (
    if x1 < 0 ∨ 10 ≤ (x1).toNatClampNeg then none else
    some ((S.1 49 (x1).toNatClampNeg), S)
  ) else (
    if x2 < 0 ∨ 64 ≤ (x2).toNatClampNeg then none else
    if (S.1 35 (x2).toNatClampNeg) = 0 then (
      f_X9_lettersIn_76 n x1 k2 S x2 x2 ((1 : Int32))
    ) else (
      if x2 < 0 ∨ 64 ≤ (x2).toNatClampNeg then none else
      if (S.1 35 (x2).toNatClampNeg) = (1 : Int32) then (
        if x2 < 0 ∨ 64 ≤ (x2).toNatClampNeg then none else
        if (S.1 36 (x2).toNatClampNeg) < 0 ∨ 10 ≤ ((S.1 36 (x2).toNatClampNeg)).toNatClampNeg then none else
        f_X9_lettersIn_76 n x1 k2 S x2 x2 (((3 : Int32) + (S.1 49 ((S.1 36 (x2).toNatClampNeg)).toNatClampNeg)))
      ) else (
        if x2 < 0 ∨ 64 ≤ (x2).toNatClampNeg then none else
        if (S.1 36 (x2).toNatClampNeg) < 0 ∨ 10 ≤ ((S.1 36 (x2).toNatClampNeg)).toNatClampNeg then none else
        if x2 < 0 ∨ 64 ≤ (x2).toNatClampNeg then none else
        if (S.1 37 (x2).toNatClampNeg) < 0 ∨ 10 ≤ ((S.1 37 (x2).toNatClampNeg)).toNatClampNeg then none else
        f_X9_lettersIn_76 n x1 k2 S x2 x2 ((((4 : Int32) + (S.1 49 ((S.1 36 (x2).toNatClampNeg)).toNatClampNeg)) + (S.1 49 ((S.1 37 (x2).toNatClampNeg)).toNatClampNeg)))
      )
    )
  )
def f_X9_lettersIn (n : Nat) (S : St) (a1 : Int32) : Option (Int32 × St) :=
  bd ((0 : Int32)) fun (x2_16 : Int32) =>
  fixF (fun _ _ => none) (f_X9_lettersIn_2 n a1 ) n S x2_16
def f_X9_sameAs (n : Nat) (S : St) (a1 : Int32) : Option (Int32 × St) :=
  bo (f_X9_layExchange n S ) fun (_ : Unit) (S_2 : St) =>
  if a1 < 0 ∨ 10 ≤ (a1).toNatClampNeg then none else
  some ((S_2.1 41 (a1).toNatClampNeg), S_2)
def f_X9_literalsWith_38 (n : Nat) (x1 : Int32) (k4 : St → Int32 → Int32 → Option (Int32 × St)) (S : St) (x3 : Int32) (t0 : Int32) (t1 : Int32) : Option (Int32 × St) :=
  bd ((t0 + t1)) fun (x2_1 : Int32) =>
  bd (x3 + (1 : Int32)) fun (x3_2 : Int32) =>
  k4 S x2_1 x3_2
def f_X9_literalsWith_33 (n : Nat) (x1 : Int32) (k4 : St → Int32 → Int32 → Option (Int32 × St)) (S : St) (x3 : Int32) (t0 : Int32) : Option (Int32 × St) :=
  f_X9_literalsWith_38 n x1 k4 S x3 t0 ((1 : Int32))
def f_X9_literalsWith_4 (n : Nat) (x1 : Int32) (k4 : St → Int32 → Int32 → Option (Int32 × St)) (S : St) (x2 : Int32) (x3 : Int32) : Option (Int32 × St) :=
  if (S.1 28 2) ≤ x3 then (
    some (x2, S)
  ) else (
    if x3 < 0 ∨ 10 ≤ (x3).toNatClampNeg then none else
    if (S.1 38 (x3).toNatClampNeg) = x1 then (
      f_X9_literalsWith_33 n x1 k4 S x3 x2
    ) else (
      if x3 < 0 ∨ 10 ≤ (x3).toNatClampNeg then none else
      if (S.1 39 (x3).toNatClampNeg) = x1 then (
        f_X9_literalsWith_33 n x1 k4 S x3 x2
      ) else (
        f_X9_literalsWith_38 n x1 k4 S x3 x2 ((0 : Int32))
      )
    )
  )
def f_X9_literalsWith (n : Nat) (S : St) (a1 : Int32) : Option (Int32 × St) :=
  bd ((0 : Int32)) fun (x2_8 : Int32) =>
  bd ((0 : Int32)) fun (x3_9 : Int32) =>
  fixF (fun _ _ _ => none) (f_X9_literalsWith_4 n a1 ) n S x2_8 x3_9
def f_X9_termNow (n : Nat) (S : St) (a1 : Int32) (a2 : Int32) : Option (Int32 × St) :=
  if a2 = (0 : Int32) then (
    if a1 < 0 ∨ 64 ≤ (a1).toNatClampNeg then none else
    some ((S.1 35 (a1).toNatClampNeg), S)
  ) else (
  if a2 = (1 : Int32) then (
    if a1 < 0 ∨ 64 ≤ (a1).toNatClampNeg then none else
    some ((S.1 36 (a1).toNatClampNeg), S)
  ) else (
  if a2 = (2 : Int32) then (
    if a1 < 0 ∨ 64 ≤ (a1).toNatClampNeg then none else
    some ((S.1 37 (a1).toNatClampNeg), S)
  ) else (
  if a2 = (3 : Int32) then (
    bo (f_X9_lettersIn n S a1) fun (r_8 : Int32) (S_9 : St) =>
    some (r_8, S_9)
  ) else (
  if a2 = (4 : Int32) then (
    bo (f_X9_sameAs n S a1) fun (r_12 : Int32) (S_13 : St) =>
    some (r_12, S_13)
  ) else (
    bo (f_X9_literalsWith n S a1) fun (r_15 : Int32) (S_16 : St) =>
    some (r_15, S_16)
  )))))
def f_X9_term (n : Nat) (S : St) (a1 : Int32) (a2 : Int32) : Option (Int32 × St) :=
  bo (f_X9_within n S a1 (0 : Int32) (((S.1 28 18) - (1 : Int32)))) fun (r_1 : Int32) (S_2 : St) =>
  if r_1 = 0 then (
    some ((-2000000002 : Int32), S_2)
  ) else (
    bo (f_X9_within n S_2 a2 (0 : Int32) (5 : Int32)) fun (r_5 : Int32) (S_6 : St) =>
    if r_5 = 0 then (
      some ((-2000000003 : Int32), S_6)
    ) else (
      bo (f_X9_termNow n S_6 a1 a2) fun (r_9 : Int32) (S_10 : St) =>
      some (r_9, S_10)
    )
  )
def f_X9_howMany (n : Nat) (S : St) (a1 : Int32) : Option (Int32 × St) :=
  if a1 = (0 : Int32) then (
    some ((S.1 28 2), S)
  ) else (
  if a1 = (1 : Int32) then (
    some ((S.1 28 18), S)
  ) else (
  if a1 = (2 : Int32) then (
    some ((S.1 28 0), S)
  ) else (
  if a1 = (3 : Int32) then (
    some ((S.1 28 7), S)
  ) else (
  if a1 = (4 : Int32) then (
    some ((S.1 28 8), S)
  ) else (
  if a1 = (5 : Int32) then (
    some ((S.1 28 9), S)
  ) else (
    some ((-2000000003 : Int32), S)
  ))))))
def f_X9_count (n : Nat) (S : St) (a1 : Int32) : Option (Int32 × St) :=
  bo (f_X9_howMany n S a1) fun (r_1 : Int32) (S_2 : St) =>
  some (r_1, S_2)
def f_X9_mix (n : Nat) (S : St) (a1 : Int64) : Option (Unit × St) :=
  bd (sL S 28 47 (((31 : Int64) * (S.2 28 47)) + a1)) fun (S_1 : St) =>
  some ((), S_1)
def f_X9_digest_137 (n : Nat) (k137 : St → Int32 → Option (Int64 × St)) (S : St) (x1 : Int32) : Option (Int64 × St) :=
  if (6 : Int32) ≤ x1 then (
    some ((S.2 28 47), S)
  ) else (
    bo (f_X9_howMany n S x1) fun (r_2 : Int32) (S_3 : St) =>
    bo (f_X9_mix n S_3 (r_2).toInt64) fun (_ : Unit) (S_6 : St) =>
    bd (x1 + (1 : Int32)) fun (x1_8 : Int32) =>
    k137 S_6 x1_8
  )
def f_X9_digest_110 (n : Nat) (k110 : St → Int32 → Option (Int64 × St)) (S : St) (x1 : Int32) : Option (Int64 × St) :=
  if (S.1 28 0) ≤ x1 then (
    bd ((0 : Int32)) fun (x1_10 : Int32) =>
    fixF (fun _ _ => none) (f_X9_digest_137 n  ) n S x1_10
  ) else (
    if x1 < 0 ∨ 40 ≤ (x1).toNatClampNeg then none else
    bo (f_X9_mix n S (((S.1 29 (x1).toNatClampNeg)).toInt64)) fun (_ : Unit) (S_13 : St) =>
    bd (x1 + (1 : Int32)) fun (x1_15 : Int32) =>
    k110 S_13 x1_15
  )
def f_X9_digest_78 (n : Nat) (k78 : St → Int32 → Option (Int64 × St)) (S : St) (x1 : Int32) : Option (Int64 × St) :=
  if (3 : Int32) ≤ x1 then (
    bo (f_X9_holds n S ) fun (r_17 : Int32) (S_18 : St) =>
    bo (f_X9_mix n S_18 (r_17).toInt64) fun (_ : Unit) (S_21 : St) =>
    bd ((0 : Int32)) fun (x1_23 : Int32) =>
    fixF (fun _ _ => none) (f_X9_digest_110 n  ) n S_21 x1_23
  ) else (
    bo (f_X9_exchangeNow n S x1) fun (r_24 : Int32) (S_25 : St) =>
    bo (f_X9_mix n S_25 (r_24).toInt64) fun (_ : Unit) (S_28 : St) =>
    bd (x1 + (1 : Int32)) fun (x1_30 : Int32) =>
    k78 S_28 x1_30
  )
def f_X9_digest_42 (n : Nat) (k42 : St → Int32 → Option (Int64 × St)) (S : St) (x1 : Int32) : Option (Int64 × St) :=
  if ((6 : Int32) * (S.1 28 18)) ≤ x1 then (
    bd ((0 : Int32)) fun (x1_32 : Int32) =>
    fixF (fun _ _ => none) (f_X9_digest_78 n  ) n S x1_32
  ) else (
    bo (f_X9_termNow n S ((x1 / (6 : Int32))) ((x1 - x1 / (6 : Int32) * (6 : Int32)))) fun (r_33 : Int32) (S_34 : St) =>
    bo (f_X9_mix n S_34 (r_33).toInt64) fun (_ : Unit) (S_37 : St) =>
    bd (x1 + (1 : Int32)) fun (x1_39 : Int32) =>
    k42 S_37 x1_39
  )
def f_X9_digest_9 (n : Nat) (k9 : St → Int32 → Option (Int64 × St)) (S : St) (x1 : Int32) : Option (Int64 × St) :=
  if ((4 : Int32) * (S.1 28 2)) ≤ x1 then (
    bd ((0 : Int32)) fun (x1_41 : Int32) =>
    fixF (fun _ _ => none) (f_X9_digest_42 n  ) n S x1_41
  ) else (
    bo (f_X9_literalNow n S ((x1 / (4 : Int32))) ((x1 - x1 / (4 : Int32) * (4 : Int32)))) fun (r_42 : Int32) (S_43 : St) =>
    bo (f_X9_mix n S_43 (r_42).toInt64) fun (_ : Unit) (S_46 : St) =>
    bd (x1 + (1 : Int32)) fun (x1_48 : Int32) =>
    k9 S_46 x1_48
  )
def f_X9_digest (n : Nat) (S : St) : Option (Int64 × St) :=
  bd (sL S 28 47 (1609 : Int64)) fun (S_49 : St) =>
  bd ((0 : Int32)) fun (x1_50 : Int32) =>
  fixF (fun _ _ => none) (f_X9_digest_9 n  ) n S_49 x1_50
