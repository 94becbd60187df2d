/-! howMany: both sides answer alike -/
theorem s_how_one {n : Nat} (hn : n ≤ 7) (h2 : 2 ≤ n) {lit : Nat → Nat} (hl : ∀ c, c < 512 → lit c < 2 ^ 22) (hx : s_en n n [] 0 = s_dig lit (2 ^ 22) 512) {tn : Nat → List (List Int)} (hz : ∀ r, r < 4 → ∀ dm, dm < 13 → s_labs n (s_T0 r) 1 dm = s_tbl (tn r) 1 dm) (hw : ∀ k, k < n + 1 → ∀ dm, dm < 13 → s_tbl (tn (min k (n - k))) 1 dm = ((if (dm : Int) ≤ ((k * (n - k) : Nat) : Int) then lit (64 * k + (k * (n - k) - dm)) else 0 : Nat) : Int)) {k : Nat} (hk : k ≤ n) {z : Int} (z0 : 0 ≤ z) : (if z < 13 then s_labs n (s_T0 (min k (n - k))) 1 z.toNat else 0) = (s_lv n (s_Q n k z) n (fun _ => 0) : Int) := by
  rw [s_how_cnt hn (by omega) hk z0 hl hx]
  have hsz : k * (n - k) ≤ 12 := by
    have : ∀ a : Nat, a ≤ 7 → ∀ c : Nat, c ≤ 7 → a + c ≤ 7 → a * c ≤ 12 := by decide
    exact this k (by omega) (n - k) (by omega) (by omega)
  by_cases h : z < 13
  · obtain ⟨dm, rfl⟩ : ∃ w : Nat, z = (w : Int) := ⟨z.toNat, by omega⟩
    rw [if_pos h, Int.toNat_natCast, hz (min k (n - k)) (by omega) dm (by omega)]
    exact hw k (by omega) dm (by omega)
  · rw [if_neg h, if_neg (by omega)]; rfl
def s_tn2 : Nat → List (List Int)
  | 0 => s_t02
  | 1 => s_t12
  | 2 => s_t22
  | _ => s_t32
theorem s_zz2 : ∀ r, r < 4 → ∀ dm, dm < 13 → s_labs 2 (s_T0 r) 1 dm = s_tbl (s_tn2 r) 1 dm
  | 0, _, dm, h => s_z02 1 (by decide) dm h
  | 1, _, dm, h => s_z12 1 (by decide) dm h
  | 2, _, dm, h => s_z22 1 (by decide) dm h
  | 3, _, dm, h => s_z32 1 (by decide) dm h
  | r + 4, hr, _, _ => absurd hr (by omega)
theorem s_ww2 : ∀ k : Nat, k < 2 + 1 → ∀ dm : Nat, dm < 13 → s_tbl (s_tn2 (min k (2 - k))) 1 dm = ((if (dm : Int) ≤ ((k * (2 - k) : Nat) : Int) then s_lk s_h2 (64 * k + (k * (2 - k) - dm)) else 0 : Nat) : Int) := by decide +kernel
theorem s_hl2 : ∀ c, c < 512 → s_lk s_h2 c < 2 ^ 22 := by decide +kernel
def s_tn3 : Nat → List (List Int)
  | 0 => s_t03
  | 1 => s_t13
  | 2 => s_t23
  | _ => s_t33
theorem s_zz3 : ∀ r, r < 4 → ∀ dm, dm < 13 → s_labs 3 (s_T0 r) 1 dm = s_tbl (s_tn3 r) 1 dm
  | 0, _, dm, h => s_z03 1 (by decide) dm h
  | 1, _, dm, h => s_z13 1 (by decide) dm h
  | 2, _, dm, h => s_z23 1 (by decide) dm h
  | 3, _, dm, h => s_z33 1 (by decide) dm h
  | r + 4, hr, _, _ => absurd hr (by omega)
theorem s_ww3 : ∀ k : Nat, k < 3 + 1 → ∀ dm : Nat, dm < 13 → s_tbl (s_tn3 (min k (3 - k))) 1 dm = ((if (dm : Int) ≤ ((k * (3 - k) : Nat) : Int) then s_lk s_h3 (64 * k + (k * (3 - k) - dm)) else 0 : Nat) : Int) := by decide +kernel
theorem s_hl3 : ∀ c, c < 512 → s_lk s_h3 c < 2 ^ 22 := by decide +kernel
def s_tn4 : Nat → List (List Int)
  | 0 => s_t04
  | 1 => s_t14
  | 2 => s_t24
  | _ => s_t34
theorem s_zz4 : ∀ r, r < 4 → ∀ dm, dm < 13 → s_labs 4 (s_T0 r) 1 dm = s_tbl (s_tn4 r) 1 dm
  | 0, _, dm, h => s_z04 1 (by decide) dm h
  | 1, _, dm, h => s_z14 1 (by decide) dm h
  | 2, _, dm, h => s_z24 1 (by decide) dm h
  | 3, _, dm, h => s_z34 1 (by decide) dm h
  | r + 4, hr, _, _ => absurd hr (by omega)
theorem s_ww4 : ∀ k : Nat, k < 4 + 1 → ∀ dm : Nat, dm < 13 → s_tbl (s_tn4 (min k (4 - k))) 1 dm = ((if (dm : Int) ≤ ((k * (4 - k) : Nat) : Int) then s_lk s_h4 (64 * k + (k * (4 - k) - dm)) else 0 : Nat) : Int) := by decide +kernel
theorem s_hl4 : ∀ c, c < 512 → s_lk s_h4 c < 2 ^ 22 := by decide +kernel
def s_tn5 : Nat → List (List Int)
  | 0 => s_t05
  | 1 => s_t15
  | 2 => s_t25
  | _ => s_t35
theorem s_zz5 : ∀ r, r < 4 → ∀ dm, dm < 13 → s_labs 5 (s_T0 r) 1 dm = s_tbl (s_tn5 r) 1 dm
  | 0, _, dm, h => s_z05 1 (by decide) dm h
  | 1, _, dm, h => s_z15 1 (by decide) dm h
  | 2, _, dm, h => s_z25 1 (by decide) dm h
  | 3, _, dm, h => s_z35 1 (by decide) dm h
  | r + 4, hr, _, _ => absurd hr (by omega)
theorem s_ww5 : ∀ k : Nat, k < 5 + 1 → ∀ dm : Nat, dm < 13 → s_tbl (s_tn5 (min k (5 - k))) 1 dm = ((if (dm : Int) ≤ ((k * (5 - k) : Nat) : Int) then s_lk s_h5 (64 * k + (k * (5 - k) - dm)) else 0 : Nat) : Int) := by decide +kernel
theorem s_hl5 : ∀ c, c < 512 → s_lk s_h5 c < 2 ^ 22 := by decide +kernel
def s_tn6 : Nat → List (List Int)
  | 0 => s_t06
  | 1 => s_t16
  | 2 => s_t26
  | _ => s_t36
theorem s_zz6 : ∀ r, r < 4 → ∀ dm, dm < 13 → s_labs 6 (s_T0 r) 1 dm = s_tbl (s_tn6 r) 1 dm
  | 0, _, dm, h => s_z06 1 (by decide) dm h
  | 1, _, dm, h => s_z16 1 (by decide) dm h
  | 2, _, dm, h => s_z26 1 (by decide) dm h
  | 3, _, dm, h => s_z36 1 (by decide) dm h
  | r + 4, hr, _, _ => absurd hr (by omega)
theorem s_ww6 : ∀ k : Nat, k < 6 + 1 → ∀ dm : Nat, dm < 13 → s_tbl (s_tn6 (min k (6 - k))) 1 dm = ((if (dm : Int) ≤ ((k * (6 - k) : Nat) : Int) then s_lk s_h6 (64 * k + (k * (6 - k) - dm)) else 0 : Nat) : Int) := by decide +kernel
theorem s_hl6 : ∀ c, c < 512 → s_lk s_h6 c < 2 ^ 22 := by decide +kernel
def s_tn7 : Nat → List (List Int)
  | 0 => s_t07
  | 1 => s_t17
  | 2 => s_t27
  | _ => s_t37
theorem s_zz7 : ∀ r, r < 4 → ∀ dm, dm < 13 → s_labs 7 (s_T0 r) 1 dm = s_tbl (s_tn7 r) 1 dm
  | 0, _, dm, h => s_z07 1 (by decide) dm h
  | 1, _, dm, h => s_z17 1 (by decide) dm h
  | 2, _, dm, h => s_z27 1 (by decide) dm h
  | 3, _, dm, h => s_z37 1 (by decide) dm h
  | r + 4, hr, _, _ => absurd hr (by omega)
theorem s_ww7 : ∀ k : Nat, k < 7 + 1 → ∀ dm : Nat, dm < 13 → s_tbl (s_tn7 (min k (7 - k))) 1 dm = ((if (dm : Int) ≤ ((k * (7 - k) : Nat) : Int) then s_lk s_h7 (64 * k + (k * (7 - k) - dm)) else 0 : Nat) : Int) := by decide +kernel
theorem s_hl7 : ∀ c, c < 512 → s_lk s_h7 c < 2 ^ 22 := by decide +kernel
theorem s_how_eq (x y z : Int) : s_howC x y z = s_howA x y z := by
  unfold s_howC s_howA
  by_cases h : 2 ≤ x ∧ x ≤ 7 ∧ 0 ≤ y ∧ y ≤ x ∧ 0 ≤ z
  · rw [if_pos h, if_pos h]
    obtain ⟨n, rfl⟩ : ∃ w : Nat, x = (w : Int) := ⟨x.toNat, by omega⟩
    obtain ⟨k, rfl⟩ : ∃ w : Nat, y = (w : Int) := ⟨y.toNat, by omega⟩
    rw [Int.toNat_natCast, Int.toNat_natCast]
    have hk : k ≤ n := by omega
    have z0 := h.2.2.2.2
    have hc : n = 2 ∨ n = 3 ∨ n = 4 ∨ n = 5 ∨ n = 6 ∨ n = 7 := by omega
    rcases hc with hc | hc | hc | hc | hc | hc
    · subst hc; exact s_how_one (by decide) (by decide) s_hl2 s_en2 s_zz2 s_ww2 hk z0
    · subst hc; exact s_how_one (by decide) (by decide) s_hl3 s_en3 s_zz3 s_ww3 hk z0
    · subst hc; exact s_how_one (by decide) (by decide) s_hl4 s_en4 s_zz4 s_ww4 hk z0
    · subst hc; exact s_how_one (by decide) (by decide) s_hl5 s_en5 s_zz5 s_ww5 hk z0
    · subst hc; exact s_how_one (by decide) (by decide) s_hl6 s_en6 s_zz6 s_ww6 hk z0
    · subst hc; exact s_how_one (by decide) (by decide) s_hl7 s_en7 s_zz7 s_ww7 hk z0
  · rw [if_neg h, if_neg h]
