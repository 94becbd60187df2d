/-! ways: the model whole -/
theorem s_4 : ∀ r : Nat, r < 4 → ∀ q : Nat, q < 4 → q_w ((q_w (4 * (r : Int))) + (q : Int)) = ((4 * r + q : Nat) : Int) := by decide +kernel
theorem c_Md_of {r q : Nat} (hr : r < 4) (hq : q < 4) {d : qD} {b : Nat} : q_Ev m_Md_of 0 [q_r t_Md 0, q_i (r : Int), q_i (q : Int)] [] (q_mk d b) (some (.inr (.inl (d.2 t_mMatrix 0 (4 * r + q)))), q_mk d b) := by
  refine e_Md_of_0 ?_
  rw [s_4 r hr q hq, Int.toNat_natCast]
  exact ⟨by omega, by omega, rfl⟩
def s_two (g : Nat → Int64) (a b x y : Nat) : Int64 := g (4 * a + x) * g (4 * b + y) - g (4 * a + y) * g (4 * b + x)
def s_three (g : Nat → Int64) (x y z : Nat) : Int64 := g (4 * 0 + x) * s_two g 1 2 y z - g (4 * 0 + y) * s_two g 1 2 x z + g (4 * 0 + z) * s_two g 1 2 x y
def s_det (g : Nat → Int64) (many : Nat) : Int64 := if many = 0 then 1 else if many = 1 then g (4 * 0 + 0) else if many = 2 then s_two g 0 1 0 1 else if many = 3 then s_three g 0 1 2 else g (4 * 3 + 3) * s_three g 0 1 2 - g (4 * 3 + 2) * s_three g 0 1 3 + g (4 * 3 + 1) * s_three g 0 2 3 - g (4 * 3 + 0) * s_three g 1 2 3
theorem c_Md_two {p q x y : Nat} (hp : p < 4) (hq : q < 4) (hx : x < 4) (hy : y < 4) {d : qD} {b : Nat} : q_Ev m_Md_two 0 [q_r t_Md 0, q_i (p : Int), q_i (q : Int), q_i (x : Int), q_i (y : Int)] [] (q_mk d b) (some (.inr (.inl (s_two (d.2 t_mMatrix 0) p q x y))), q_mk d b) :=
  e_Md_two_0 ⟨_, _, c_Md_of hp hx, e_Md_two_4 ⟨_, _, c_Md_of hq hy, e_Md_two_8 ⟨_, _, c_Md_of hp hy, e_Md_two_13 ⟨_, _, c_Md_of hq hx, e_Md_two_17 rfl⟩⟩⟩⟩
theorem c_Md_three {x y z : Nat} (hx : x < 4) (hy : y < 4) (hz : z < 4) {d : qD} {b : Nat} : q_Ev m_Md_three 0 [q_r t_Md 0, q_i (x : Int), q_i (y : Int), q_i (z : Int)] [] (q_mk d b) (some (.inr (.inl (s_three (d.2 t_mMatrix 0) x y z))), q_mk d b) :=
  e_Md_three_0 ⟨_, _, c_Md_of (r := 0) (by decide) hx, e_Md_three_4 ⟨_, _, c_Md_two (p := 1) (q := 2) (by decide) (by decide) hy hz, e_Md_three_10 ⟨_, _, c_Md_of (r := 0) (by decide) hy, e_Md_three_15 ⟨_, _, c_Md_two (p := 1) (q := 2) (by decide) (by decide) hx hz, e_Md_three_21 ⟨_, _, c_Md_of (r := 0) (by decide) hz, e_Md_three_27 ⟨_, _, c_Md_two (p := 1) (q := 2) (by decide) (by decide) hx hy, e_Md_three_33 rfl⟩⟩⟩⟩⟩⟩
theorem c_Md_determinant {many : Nat} {d : qD} {b : Nat} : q_Ev m_Md_determinant 0 [q_r t_Md 0, q_i (many : Int)] [] (q_mk d b) (some (.inr (.inl (s_det (d.2 t_mMatrix 0) many))), q_mk d b) := by
  unfold s_det
  refine e_Md_determinant_0 ⟨fun h => ?_, fun h => ⟨fun h1 => ?_, fun h1 => ⟨fun h2 => ?_, fun h2 => ⟨fun h3 => ?_, fun h3 => ?_⟩⟩⟩⟩
  · rw [if_pos (by omega)]; rfl
  · rw [if_neg (by omega), if_pos (by omega)]
    exact ⟨_, _, c_Md_of (r := 0) (q := 0) (by decide) (by decide), e_Md_determinant_8 rfl⟩
  · rw [if_neg (by omega), if_neg (by omega), if_pos (by omega)]
    exact ⟨_, _, c_Md_two (p := 0) (q := 1) (x := 0) (y := 1) (by decide) (by decide) (by decide) (by decide), e_Md_determinant_15 rfl⟩
  · rw [if_neg (by omega), if_neg (by omega), if_neg (by omega), if_pos (by omega)]
    exact ⟨_, _, c_Md_three (x := 0) (y := 1) (z := 2) (by decide) (by decide) (by decide), e_Md_determinant_21 rfl⟩
  · rw [if_neg (by omega), if_neg (by omega), if_neg (by omega), if_neg (by omega)]
    exact ⟨_, _, c_Md_of (r := 3) (q := 3) (by decide) (by decide), e_Md_determinant_26 ⟨_, _, c_Md_three (x := 0) (y := 1) (z := 2) (by decide) (by decide) (by decide), e_Md_determinant_31 ⟨_, _, c_Md_of (r := 3) (q := 2) (by decide) (by decide), e_Md_determinant_36 ⟨_, _, c_Md_three (x := 0) (y := 1) (z := 3) (by decide) (by decide) (by decide), e_Md_determinant_41 ⟨_, _, c_Md_of (r := 3) (q := 1) (by decide) (by decide), e_Md_determinant_47 ⟨_, _, c_Md_three (x := 0) (y := 2) (z := 3) (by decide) (by decide) (by decide), e_Md_determinant_52 ⟨_, _, c_Md_of (r := 3) (q := 0) (by decide) (by decide), e_Md_determinant_58 ⟨_, _, c_Md_three (x := 1) (y := 2) (z := 3) (by decide) (by decide) (by decide), e_Md_determinant_63 rfl⟩⟩⟩⟩⟩⟩⟩⟩
/-- minors by lists are the determinants -/
theorem s_DL_1 (M : Nat → Nat → Int64) (i x : Nat) : s_DL M [i] [x] = M i x := by
  simp [s_DL, s_SL, s_sg]
theorem s_DL_2 (M : Nat → Nat → Int64) {i j x y : Nat} (h : x < y) : s_DL M [j, i] [x, y] = M i x * M j y - M i y * M j x := by
  have n1 : ¬ y < x := by omega
  have n2 : ¬ x = y := by omega
  have n3 : ¬ y = x := by omega
  have e : s_DL M [j, i] [x, y] = s_SL (fun k => s_sg [x, y] k (s_DL M [i] ([x, y].filter (fun l => !decide (l = k))) * M j k)) [x, y] := rfl
  rw [e]
  simp [s_SL, s_sg, h, n1, n2, n3, s_DL_1]
  grind
theorem s_DL_3 (M : Nat → Nat → Int64) {i j k x y z : Nat} (h : x < y) (h2 : y < z) : s_DL M [k, j, i] [x, y, z] = M k z * (M i x * M j y - M i y * M j x) - M k y * (M i x * M j z - M i z * M j x) + M k x * (M i y * M j z - M i z * M j y) := by
  have n1 : ¬ y < x := by omega
  have n2 : ¬ x = y := by omega
  have n3 : ¬ y = x := by omega
  have n4 : ¬ z < y := by omega
  have n5 : ¬ z = y := by omega
  have n6 : ¬ y = z := by omega
  have n7 : ¬ z < x := by omega
  have n8 : ¬ z = x := by omega
  have n9 : ¬ x = z := by omega
  have h3 : x < z := by omega
  have e : s_DL M [k, j, i] [x, y, z] = s_SL (fun l => s_sg [x, y, z] l (s_DL M [j, i] ([x, y, z].filter (fun m => !decide (m = l))) * M k l)) [x, y, z] := rfl
  rw [e]
  simp [s_SL, s_sg, h, h2, h3, n1, n2, n3, n4, n5, n6, n7, n8, n9, s_DL_2]
  grind
theorem s_DL_4 (M : Nat → Nat → Int64) {i j k l x y z w : Nat} (h : x < y) (h2 : y < z) (h3 : z < w) : s_DL M [l, k, j, i] [x, y, z, w] = M l w * s_DL M [k, j, i] [x, y, z] - M l z * s_DL M [k, j, i] [x, y, w] + M l y * s_DL M [k, j, i] [x, z, w] - M l x * s_DL M [k, j, i] [y, z, w] := by
  have n1 : ¬ y < x := by omega
  have n2 : ¬ x = y := by omega
  have n3 : ¬ y = x := by omega
  have n4 : ¬ z < y := by omega
  have n5 : ¬ z = y := by omega
  have n6 : ¬ y = z := by omega
  have n7 : ¬ z < x := by omega
  have n8 : ¬ z = x := by omega
  have n9 : ¬ x = z := by omega
  have m1 : ¬ w < x := by omega
  have m2 : ¬ w < y := by omega
  have m3 : ¬ w < z := by omega
  have m4 : ¬ w = x := by omega
  have m5 : ¬ w = y := by omega
  have m6 : ¬ w = z := by omega
  have m7 : ¬ x = w := by omega
  have m8 : ¬ y = w := by omega
  have m9 : ¬ z = w := by omega
  have h4 : x < z := by omega
  have h5 : x < w := by omega
  have h6 : y < w := by omega
  have e : s_DL M [l, k, j, i] [x, y, z, w] = s_SL (fun q => s_sg [x, y, z, w] q (s_DL M [k, j, i] ([x, y, z, w].filter (fun m => !decide (m = q))) * M l q)) [x, y, z, w] := rfl
  rw [e]
  simp [-s_DL, s_SL, s_sg, h, h2, h3, h4, h5, h6, n1, n2, n3, n4, n5, n6, n7, n8, n9, m1, m2, m3, m4, m5, m6, m7, m8, m9]
  generalize s_DL M [k, j, i] [x, y, z] = A
  generalize s_DL M [k, j, i] [x, y, w] = B
  generalize s_DL M [k, j, i] [x, z, w] = C
  generalize s_DL M [k, j, i] [y, z, w] = D
  grind
def s_mx (M : Nat → Nat → Int64) (R E : List Nat) (g : Nat → Int64) : Prop := ∀ r q, r < R.length → q < E.length → g (4 * r + q) = M (R.getD r 0) (E.getD q 0)
theorem s_det_DL {M : Nat → Nat → Int64} {R E : List Nat} {g : Nat → Int64} (hl : R.length = E.length) (h4 : E.length ≤ 4) (hs : E.Pairwise (· < ·)) (hm : s_mx M R E g) : s_det g E.length = s_DL M R.reverse E := by
  match R, E, hl, h4, hs, hm with
  | [], [], _, _, _, _ => rfl
  | [i], [x], _, _, _, hm =>
    have a := hm 0 0 (by simp) (by simp)
    show g 0 = s_DL M [i] [x]
    rw [s_DL_1]; exact a
  | [i, j], [x, y], _, _, hs, hm =>
    have a := hm 0 0 (by simp) (by simp)
    have b := hm 0 1 (by simp) (by simp)
    have c := hm 1 0 (by simp) (by simp)
    have d := hm 1 1 (by simp) (by simp)
    simp at hs
    show s_two g 0 1 0 1 = s_DL M [j, i] [x, y]
    rw [s_DL_2 M hs]
    unfold s_two
    rw [a, b, c, d]
    rfl
  | [i, j, k], [x, y, z], _, _, hs, hm =>
    have a00 := hm 0 0 (by simp) (by simp)
    have a01 := hm 0 1 (by simp) (by simp)
    have a02 := hm 0 2 (by simp) (by simp)
    have a10 := hm 1 0 (by simp) (by simp)
    have a11 := hm 1 1 (by simp) (by simp)
    have a12 := hm 1 2 (by simp) (by simp)
    have a20 := hm 2 0 (by simp) (by simp)
    have a21 := hm 2 1 (by simp) (by simp)
    have a22 := hm 2 2 (by simp) (by simp)
    simp at hs
    show s_three g 0 1 2 = s_DL M [k, j, i] [x, y, z]
    rw [s_DL_3 M hs.1.1 hs.2]
    unfold s_three s_two
    rw [a00, a01, a02, a10, a11, a12, a20, a21, a22]
    simp
    grind
  | [i, j, k, l], [x, y, z, w], _, _, hs, hm =>
    have a00 := hm 0 0 (by simp) (by simp)
    have a01 := hm 0 1 (by simp) (by simp)
    have a02 := hm 0 2 (by simp) (by simp)
    have a03 := hm 0 3 (by simp) (by simp)
    have a10 := hm 1 0 (by simp) (by simp)
    have a11 := hm 1 1 (by simp) (by simp)
    have a12 := hm 1 2 (by simp) (by simp)
    have a13 := hm 1 3 (by simp) (by simp)
    have a20 := hm 2 0 (by simp) (by simp)
    have a21 := hm 2 1 (by simp) (by simp)
    have a22 := hm 2 2 (by simp) (by simp)
    have a23 := hm 2 3 (by simp) (by simp)
    have a30 := hm 3 0 (by simp) (by simp)
    have a31 := hm 3 1 (by simp) (by simp)
    have a32 := hm 3 2 (by simp) (by simp)
    have a33 := hm 3 3 (by simp) (by simp)
    simp at hs
    show g (4 * 3 + 3) * s_three g 0 1 2 - g (4 * 3 + 2) * s_three g 0 1 3 + g (4 * 3 + 1) * s_three g 0 2 3 - g (4 * 3 + 0) * s_three g 1 2 3 = s_DL M [l, k, j, i] [x, y, z, w]
    have t1 : s_three g 0 1 2 = s_DL M [k, j, i] [x, y, z] := by
      rw [s_DL_3 M (by omega) (by omega)]
      unfold s_three s_two
      rw [a00, a01, a02, a10, a11, a12, a20, a21, a22]
      simp
      grind
    have t2 : s_three g 0 1 3 = s_DL M [k, j, i] [x, y, w] := by
      rw [s_DL_3 M (by omega) (by omega)]
      unfold s_three s_two
      rw [a00, a01, a03, a10, a11, a13, a20, a21, a23]
      simp
      grind
    have t3 : s_three g 0 2 3 = s_DL M [k, j, i] [x, z, w] := by
      rw [s_DL_3 M (by omega) (by omega)]
      unfold s_three s_two
      rw [a00, a02, a03, a10, a12, a13, a20, a22, a23]
      simp
      grind
    have t4 : s_three g 1 2 3 = s_DL M [k, j, i] [y, z, w] := by
      rw [s_DL_3 M (by omega) (by omega)]
      unfold s_three s_two
      rw [a01, a02, a03, a11, a12, a13, a21, a22, a23]
      simp
      grind
    rw [s_DL_4 M (by omega) (by omega) (by omega), t1, t2, t3, t4, a30, a31, a32, a33]
    simp
  | _ :: _ :: _ :: _ :: _ :: _, E, hl, h4, _, _ =>
    simp only [List.length_cons] at hl
    omega
theorem s_abs (x : Int64) : ((0 : Int) ≤ q_lcmp x (Int64.ofInt 0) → x = q_labs x) ∧ (q_lcmp x (Int64.ofInt 0) < 0 → -x = q_labs x) := by
  have z : Int64.ofInt 0 = 0 := rfl
  unfold q_lcmp lg_cmp q_labs
  rw [z]
  by_cases h : (0 : Int64) < x
  · rw [if_pos h, if_pos h]
    exact ⟨fun _ => rfl, fun hh => absurd hh (by decide)⟩
  · rw [if_neg h, if_neg h]
    by_cases h2 : x = 0
    · rw [if_pos h2, h2]
      exact ⟨fun _ => by decide, fun hh => absurd hh (by decide)⟩
    · rw [if_neg h2]
      exact ⟨fun hh => absurd hh (by decide), fun _ => rfl⟩
