/-! soundness: a run of the small machine is a run of the Statement's machine -/
theorem q_ckL_at {mi : Nat} {P : List Nat} : ∀ {pcs : List Nat} {is : List qI} {hs : List (List Nat)}, q_ckL mi P pcs is hs = true → ∀ (k : Nat) (op : qI), is[k]? = some op → ∃ (pc : Nat) (h : List Nat), pcs[k]? = some pc ∧ q_ckI mi P pc op h = true ∧ ∃ len, decode (q_cc mi) pc = .ok (op.1, len) ∧ (q_il op.1 = 0 ∨ len = q_il op.1) ∧ (k + 1 < is.length → pcs[k + 1]? = some (pc + len))
  | [], [], [], _, k, op, hk => by simp at hk
  | [], _ :: _, _, h, _, _, _ => by simp [q_ckL] at h
  | [], [], _ :: _, h, _, _, _ => by simp [q_ckL] at h
  | _ :: _, [], _, h, _, _, _ => by simp [q_ckL] at h
  | _ :: _, _ :: _, [], h, _, _, _ => by simp [q_ckL] at h
  | pc :: pcs, op0 :: is, h0 :: hs, h, k, op, hk => by
    unfold q_ckL at h
    rw [Bool.and_eq_true, Bool.and_eq_true] at h
    obtain ⟨h1, h2, h3⟩ := h
    cases k with
    | zero =>
      rw [List.getElem?_cons_zero] at hk
      cases hk
      cases pcs with
      | nil =>
        simp only [Bool.and_eq_true, decide_eq_true_eq] at h1
        refine ⟨pc, h0, rfl, h2, _, h1.1, Or.inr rfl, fun hlt => ?_⟩
        cases is with
        | nil => simp at hlt
        | cons a b => simp [q_ckL] at h3
      | cons pc' pcs =>
        simp only [Bool.and_eq_true, decide_eq_true_eq, Bool.or_eq_true, Nat.beq_eq] at h1
        refine ⟨pc, h0, rfl, h2, pc' - pc, h1.1, ?_, fun _ => ?_⟩
        · rcases h1.2.2 with z | z
          · exact Or.inl z
          · exact Or.inr z.symm
        · rw [List.getElem?_cons_succ, List.getElem?_cons_zero]
          congr 1
          omega
    | succ k =>
      rw [List.getElem?_cons_succ] at hk
      obtain ⟨pc1, h1', a1, a2, len, a3, a4, a5⟩ := q_ckL_at h3 k op hk
      exact ⟨pc1, h1', by rw [List.getElem?_cons_succ]; exact a1, a2, len, a3, a4, fun hlt => by rw [List.getElem?_cons_succ]; exact a5 (by simpa using hlt)⟩
/-- what is known of the k-th instruction of a method -/
def q_fact (mi k : Nat) (op : qI) : Prop := ∃ (pc : Nat) (h : List Nat), (q_pcs mi)[k]? = some pc ∧ q_ckI mi (q_pcs mi) pc op h = true ∧ ∃ len, decode (q_cc mi) pc = .ok (op.1, len) ∧ (q_il op.1 = 0 ∨ len = q_il op.1) ∧ (k + 1 < (q_code mi).length → (q_pcs mi)[k + 1]? = some (pc + len))
theorem q_fact_M {mi : Nat} (h : q_ckM mi = true) (k : Nat) (op : qI) (hk : (q_code mi)[k]? = some op) : q_fact mi k op := by
  unfold q_ckM at h
  rw [Bool.and_eq_true] at h
  exact q_ckL_at h.1 k op hk
theorem q_fact_C {a n : Nat} (h : q_ckC a n = true) (k : Nat) (op : qI) (hk : (q_code 0)[k]? = some op) (h1 : a ≤ k) (h2 : k < a + n) (h3 : k + 1 < (q_code 0).length → k + 1 < a + n) : q_fact 0 k op := by
  unfold q_ckC at h
  obtain ⟨pc, hh, b1, b2, len, b3, b4, b5⟩ := q_ckL_at h (k - a) op (by
    rw [List.getElem?_take, if_pos (by omega), List.getElem?_drop]
    rw [show a + (k - a) = k by omega]
    exact hk)
  rw [List.getElem?_take, if_pos (by omega), List.getElem?_drop, show a + (k - a) = k by omega] at b1
  refine ⟨pc, hh, b1, b2, len, b3, b4, fun hlt => ?_⟩
  have h4 := h3 hlt
  have := b5 (by rw [List.length_take, List.length_drop]; omega)
  rw [List.getElem?_take, if_pos (by omega), List.getElem?_drop, show a + (k - a + 1) = k + 1 by omega] at this
  exact this
theorem q_fact_law (k : Nat) (op : qI) (hk : (q_code 0)[k]? = some op) : q_fact 0 k op := by
  have hl : (q_code 0).length = 563 := by decide +kernel
  have hlt : k < 563 := by rw [← hl]; exact (List.getElem?_eq_some_iff.mp hk).1
  rcases (by omega : (0 ≤ k ∧ k < 48) ∨ (48 ≤ k ∧ k < 96) ∨ (96 ≤ k ∧ k < 144) ∨ (144 ≤ k ∧ k < 192) ∨ (192 ≤ k ∧ k < 240) ∨ (240 ≤ k ∧ k < 288) ∨ (288 ≤ k ∧ k < 336) ∨ (336 ≤ k ∧ k < 384) ∨ (384 ≤ k ∧ k < 432) ∨ (432 ≤ k ∧ k < 480) ∨ (480 ≤ k ∧ k < 528) ∨ (528 ≤ k ∧ k < 563)) with q | q | q | q | q | q | q | q | q | q | q | q
  · exact q_fact_C qk_C0 k op hk q.1 (by omega) (by omega)
  · exact q_fact_C qk_C48 k op hk q.1 (by omega) (by omega)
  · exact q_fact_C qk_C96 k op hk q.1 (by omega) (by omega)
  · exact q_fact_C qk_C144 k op hk q.1 (by omega) (by omega)
  · exact q_fact_C qk_C192 k op hk q.1 (by omega) (by omega)
  · exact q_fact_C qk_C240 k op hk q.1 (by omega) (by omega)
  · exact q_fact_C qk_C288 k op hk q.1 (by omega) (by omega)
  · exact q_fact_C qk_C336 k op hk q.1 (by omega) (by omega)
  · exact q_fact_C qk_C384 k op hk q.1 (by omega) (by omega)
  · exact q_fact_C qk_C432 k op hk q.1 (by omega) (by omega)
  · exact q_fact_C qk_C480 k op hk q.1 (by omega) (by omega)
  · exact q_fact_C qk_C528 k op hk q.1 (by omega) (by omega)
theorem q_ckM_all (mi : Nat) (h0 : mi ≠ 0) (h : mi < 240) : q_ckM mi = true := by
  rcases (by omega : (0 ≤ mi ∧ mi < 8) ∨ (8 ≤ mi ∧ mi < 16) ∨ (16 ≤ mi ∧ mi < 24) ∨ (24 ≤ mi ∧ mi < 32) ∨ (32 ≤ mi ∧ mi < 40) ∨ (40 ≤ mi ∧ mi < 48) ∨ (48 ≤ mi ∧ mi < 56) ∨ (56 ≤ mi ∧ mi < 64) ∨ (64 ≤ mi ∧ mi < 72) ∨ (72 ≤ mi ∧ mi < 80) ∨ (80 ≤ mi ∧ mi < 88) ∨ (88 ≤ mi ∧ mi < 96) ∨ (96 ≤ mi ∧ mi < 104) ∨ (104 ≤ mi ∧ mi < 112) ∨ (112 ≤ mi ∧ mi < 120) ∨ (120 ≤ mi ∧ mi < 128) ∨ (128 ≤ mi ∧ mi < 136) ∨ (136 ≤ mi ∧ mi < 144) ∨ (144 ≤ mi ∧ mi < 152) ∨ (152 ≤ mi ∧ mi < 160) ∨ (160 ≤ mi ∧ mi < 168) ∨ (168 ≤ mi ∧ mi < 176) ∨ (176 ≤ mi ∧ mi < 184) ∨ (184 ≤ mi ∧ mi < 192) ∨ (192 ≤ mi ∧ mi < 200) ∨ (200 ≤ mi ∧ mi < 208) ∨ (208 ≤ mi ∧ mi < 216) ∨ (216 ≤ mi ∧ mi < 224) ∨ (224 ≤ mi ∧ mi < 232) ∨ (232 ≤ mi ∧ mi < 240)) with q | q | q | q | q | q | q | q | q | q | q | q | q | q | q | q | q | q | q | q | q | q | q | q | q | q | q | q | q | q
  · have hz := List.all_eq_true.mp qk_M0 mi (by
      have hz : mi = 0 ∨ mi = 1 ∨ mi = 2 ∨ mi = 3 ∨ mi = 4 ∨ mi = 5 ∨ mi = 6 ∨ mi = 7 := by omega
      rcases hz with rfl | rfl | rfl | rfl | rfl | rfl | rfl | rfl
      · first | exact absurd rfl h0 | (cases h0)
      · simp
      · simp
      · simp
      · simp
      · simp
      · simp
      · simp)
    exact hz
  · have hz := List.all_eq_true.mp qk_M1 mi (by
      have hz : mi = 8 ∨ mi = 9 ∨ mi = 10 ∨ mi = 11 ∨ mi = 12 ∨ mi = 13 ∨ mi = 14 ∨ mi = 15 := by omega
      rcases hz with rfl | rfl | rfl | rfl | rfl | rfl | rfl | rfl
      · simp
      · simp
      · simp
      · simp
      · simp
      · simp
      · simp
      · simp)
    exact hz
  · have hz := List.all_eq_true.mp qk_M2 mi (by
      have hz : mi = 16 ∨ mi = 17 ∨ mi = 18 ∨ mi = 19 ∨ mi = 20 ∨ mi = 21 ∨ mi = 22 ∨ mi = 23 := by omega
      rcases hz with rfl | rfl | rfl | rfl | rfl | rfl | rfl | rfl
      · simp
      · simp
      · simp
      · simp
      · simp
      · simp
      · simp
      · simp)
    exact hz
  · have hz := List.all_eq_true.mp qk_M3 mi (by
      have hz : mi = 24 ∨ mi = 25 ∨ mi = 26 ∨ mi = 27 ∨ mi = 28 ∨ mi = 29 ∨ mi = 30 ∨ mi = 31 := by omega
      rcases hz with rfl | rfl | rfl | rfl | rfl | rfl | rfl | rfl
      · simp
      · simp
      · simp
      · simp
      · simp
      · simp
      · simp
      · simp)
    exact hz
  · have hz := List.all_eq_true.mp qk_M4 mi (by
      have hz : mi = 32 ∨ mi = 33 ∨ mi = 34 ∨ mi = 35 ∨ mi = 36 ∨ mi = 37 ∨ mi = 38 ∨ mi = 39 := by omega
      rcases hz with rfl | rfl | rfl | rfl | rfl | rfl | rfl | rfl
      · simp
      · simp
      · simp
      · simp
      · simp
      · simp
      · simp
      · simp)
    exact hz
  · have hz := List.all_eq_true.mp qk_M5 mi (by
      have hz : mi = 40 ∨ mi = 41 ∨ mi = 42 ∨ mi = 43 ∨ mi = 44 ∨ mi = 45 ∨ mi = 46 ∨ mi = 47 := by omega
      rcases hz with rfl | rfl | rfl | rfl | rfl | rfl | rfl | rfl
      · simp
      · simp
      · simp
      · simp
      · simp
      · simp
      · simp
      · simp)
    exact hz
  · have hz := List.all_eq_true.mp qk_M6 mi (by
      have hz : mi = 48 ∨ mi = 49 ∨ mi = 50 ∨ mi = 51 ∨ mi = 52 ∨ mi = 53 ∨ mi = 54 ∨ mi = 55 := by omega
      rcases hz with rfl | rfl | rfl | rfl | rfl | rfl | rfl | rfl
      · simp
      · simp
      · simp
      · simp
      · simp
      · simp
      · simp
      · simp)
    exact hz
  · have hz := List.all_eq_true.mp qk_M7 mi (by
      have hz : mi = 56 ∨ mi = 57 ∨ mi = 58 ∨ mi = 59 ∨ mi = 60 ∨ mi = 61 ∨ mi = 62 ∨ mi = 63 := by omega
      rcases hz with rfl | rfl | rfl | rfl | rfl | rfl | rfl | rfl
      · simp
      · simp
      · simp
      · simp
      · simp
      · simp
      · simp
      · simp)
    exact hz
  · have hz := List.all_eq_true.mp qk_M8 mi (by
      have hz : mi = 64 ∨ mi = 65 ∨ mi = 66 ∨ mi = 67 ∨ mi = 68 ∨ mi = 69 ∨ mi = 70 ∨ mi = 71 := by omega
      rcases hz with rfl | rfl | rfl | rfl | rfl | rfl | rfl | rfl
      · simp
      · simp
      · simp
      · simp
      · simp
      · simp
      · simp
      · simp)
    exact hz
  · have hz := List.all_eq_true.mp qk_M9 mi (by
      have hz : mi = 72 ∨ mi = 73 ∨ mi = 74 ∨ mi = 75 ∨ mi = 76 ∨ mi = 77 ∨ mi = 78 ∨ mi = 79 := by omega
      rcases hz with rfl | rfl | rfl | rfl | rfl | rfl | rfl | rfl
      · simp
      · simp
      · simp
      · simp
      · simp
      · simp
      · simp
      · simp)
    exact hz
  · have hz := List.all_eq_true.mp qk_M10 mi (by
      have hz : mi = 80 ∨ mi = 81 ∨ mi = 82 ∨ mi = 83 ∨ mi = 84 ∨ mi = 85 ∨ mi = 86 ∨ mi = 87 := by omega
      rcases hz with rfl | rfl | rfl | rfl | rfl | rfl | rfl | rfl
      · simp
      · simp
      · simp
      · simp
      · simp
      · simp
      · simp
      · simp)
    exact hz
  · have hz := List.all_eq_true.mp qk_M11 mi (by
      have hz : mi = 88 ∨ mi = 89 ∨ mi = 90 ∨ mi = 91 ∨ mi = 92 ∨ mi = 93 ∨ mi = 94 ∨ mi = 95 := by omega
      rcases hz with rfl | rfl | rfl | rfl | rfl | rfl | rfl | rfl
      · simp
      · simp
      · simp
      · simp
      · simp
      · simp
      · simp
      · simp)
    exact hz
  · have hz := List.all_eq_true.mp qk_M12 mi (by
      have hz : mi = 96 ∨ mi = 97 ∨ mi = 98 ∨ mi = 99 ∨ mi = 100 ∨ mi = 101 ∨ mi = 102 ∨ mi = 103 := by omega
      rcases hz with rfl | rfl | rfl | rfl | rfl | rfl | rfl | rfl
      · simp
      · simp
      · simp
      · simp
      · simp
      · simp
      · simp
      · simp)
    exact hz
  · have hz := List.all_eq_true.mp qk_M13 mi (by
      have hz : mi = 104 ∨ mi = 105 ∨ mi = 106 ∨ mi = 107 ∨ mi = 108 ∨ mi = 109 ∨ mi = 110 ∨ mi = 111 := by omega
      rcases hz with rfl | rfl | rfl | rfl | rfl | rfl | rfl | rfl
      · simp
      · simp
      · simp
      · simp
      · simp
      · simp
      · simp
      · simp)
    exact hz
  · have hz := List.all_eq_true.mp qk_M14 mi (by
      have hz : mi = 112 ∨ mi = 113 ∨ mi = 114 ∨ mi = 115 ∨ mi = 116 ∨ mi = 117 ∨ mi = 118 ∨ mi = 119 := by omega
      rcases hz with rfl | rfl | rfl | rfl | rfl | rfl | rfl | rfl
      · simp
      · simp
      · simp
      · simp
      · simp
      · simp
      · simp
      · simp)
    exact hz
  · have hz := List.all_eq_true.mp qk_M15 mi (by
      have hz : mi = 120 ∨ mi = 121 ∨ mi = 122 ∨ mi = 123 ∨ mi = 124 ∨ mi = 125 ∨ mi = 126 ∨ mi = 127 := by omega
      rcases hz with rfl | rfl | rfl | rfl | rfl | rfl | rfl | rfl
      · simp
      · simp
      · simp
      · simp
      · simp
      · simp
      · simp
      · simp)
    exact hz
  · have hz := List.all_eq_true.mp qk_M16 mi (by
      have hz : mi = 128 ∨ mi = 129 ∨ mi = 130 ∨ mi = 131 ∨ mi = 132 ∨ mi = 133 ∨ mi = 134 ∨ mi = 135 := by omega
      rcases hz with rfl | rfl | rfl | rfl | rfl | rfl | rfl | rfl
      · simp
      · simp
      · simp
      · simp
      · simp
      · simp
      · simp
      · simp)
    exact hz
  · have hz := List.all_eq_true.mp qk_M17 mi (by
      have hz : mi = 136 ∨ mi = 137 ∨ mi = 138 ∨ mi = 139 ∨ mi = 140 ∨ mi = 141 ∨ mi = 142 ∨ mi = 143 := by omega
      rcases hz with rfl | rfl | rfl | rfl | rfl | rfl | rfl | rfl
      · simp
      · simp
      · simp
      · simp
      · simp
      · simp
      · simp
      · simp)
    exact hz
  · have hz := List.all_eq_true.mp qk_M18 mi (by
      have hz : mi = 144 ∨ mi = 145 ∨ mi = 146 ∨ mi = 147 ∨ mi = 148 ∨ mi = 149 ∨ mi = 150 ∨ mi = 151 := by omega
      rcases hz with rfl | rfl | rfl | rfl | rfl | rfl | rfl | rfl
      · simp
      · simp
      · simp
      · simp
      · simp
      · simp
      · simp
      · simp)
    exact hz
  · have hz := List.all_eq_true.mp qk_M19 mi (by
      have hz : mi = 152 ∨ mi = 153 ∨ mi = 154 ∨ mi = 155 ∨ mi = 156 ∨ mi = 157 ∨ mi = 158 ∨ mi = 159 := by omega
      rcases hz with rfl | rfl | rfl | rfl | rfl | rfl | rfl | rfl
      · simp
      · simp
      · simp
      · simp
      · simp
      · simp
      · simp
      · simp)
    exact hz
  · have hz := List.all_eq_true.mp qk_M20 mi (by
      have hz : mi = 160 ∨ mi = 161 ∨ mi = 162 ∨ mi = 163 ∨ mi = 164 ∨ mi = 165 ∨ mi = 166 ∨ mi = 167 := by omega
      rcases hz with rfl | rfl | rfl | rfl | rfl | rfl | rfl | rfl
      · simp
      · simp
      · simp
      · simp
      · simp
      · simp
      · simp
      · simp)
    exact hz
  · have hz := List.all_eq_true.mp qk_M21 mi (by
      have hz : mi = 168 ∨ mi = 169 ∨ mi = 170 ∨ mi = 171 ∨ mi = 172 ∨ mi = 173 ∨ mi = 174 ∨ mi = 175 := by omega
      rcases hz with rfl | rfl | rfl | rfl | rfl | rfl | rfl | rfl
      · simp
      · simp
      · simp
      · simp
      · simp
      · simp
      · simp
      · simp)
    exact hz
  · have hz := List.all_eq_true.mp qk_M22 mi (by
      have hz : mi = 176 ∨ mi = 177 ∨ mi = 178 ∨ mi = 179 ∨ mi = 180 ∨ mi = 181 ∨ mi = 182 ∨ mi = 183 := by omega
      rcases hz with rfl | rfl | rfl | rfl | rfl | rfl | rfl | rfl
      · simp
      · simp
      · simp
      · simp
      · simp
      · simp
      · simp
      · simp)
    exact hz
  · have hz := List.all_eq_true.mp qk_M23 mi (by
      have hz : mi = 184 ∨ mi = 185 ∨ mi = 186 ∨ mi = 187 ∨ mi = 188 ∨ mi = 189 ∨ mi = 190 ∨ mi = 191 := by omega
      rcases hz with rfl | rfl | rfl | rfl | rfl | rfl | rfl | rfl
      · simp
      · simp
      · simp
      · simp
      · simp
      · simp
      · simp
      · simp)
    exact hz
  · have hz := List.all_eq_true.mp qk_M24 mi (by
      have hz : mi = 192 ∨ mi = 193 ∨ mi = 194 ∨ mi = 195 ∨ mi = 196 ∨ mi = 197 ∨ mi = 198 ∨ mi = 199 := by omega
      rcases hz with rfl | rfl | rfl | rfl | rfl | rfl | rfl | rfl
      · simp
      · simp
      · simp
      · simp
      · simp
      · simp
      · simp
      · simp)
    exact hz
  · have hz := List.all_eq_true.mp qk_M25 mi (by
      have hz : mi = 200 ∨ mi = 201 ∨ mi = 202 ∨ mi = 203 ∨ mi = 204 ∨ mi = 205 ∨ mi = 206 ∨ mi = 207 := by omega
      rcases hz with rfl | rfl | rfl | rfl | rfl | rfl | rfl | rfl
      · simp
      · simp
      · simp
      · simp
      · simp
      · simp
      · simp
      · simp)
    exact hz
  · have hz := List.all_eq_true.mp qk_M26 mi (by
      have hz : mi = 208 ∨ mi = 209 ∨ mi = 210 ∨ mi = 211 ∨ mi = 212 ∨ mi = 213 ∨ mi = 214 ∨ mi = 215 := by omega
      rcases hz with rfl | rfl | rfl | rfl | rfl | rfl | rfl | rfl
      · simp
      · simp
      · simp
      · simp
      · simp
      · simp
      · simp
      · simp)
    exact hz
  · have hz := List.all_eq_true.mp qk_M27 mi (by
      have hz : mi = 216 ∨ mi = 217 ∨ mi = 218 ∨ mi = 219 ∨ mi = 220 ∨ mi = 221 ∨ mi = 222 ∨ mi = 223 := by omega
      rcases hz with rfl | rfl | rfl | rfl | rfl | rfl | rfl | rfl
      · simp
      · simp
      · simp
      · simp
      · simp
      · simp
      · simp
      · simp)
    exact hz
  · have hz := List.all_eq_true.mp qk_M28 mi (by
      have hz : mi = 224 ∨ mi = 225 ∨ mi = 226 ∨ mi = 227 ∨ mi = 228 ∨ mi = 229 ∨ mi = 230 ∨ mi = 231 := by omega
      rcases hz with rfl | rfl | rfl | rfl | rfl | rfl | rfl | rfl
      · simp
      · simp
      · simp
      · simp
      · simp
      · simp
      · simp
      · simp)
    exact hz
  · have hz := List.all_eq_true.mp qk_M29 mi (by
      have hz : mi = 232 ∨ mi = 233 ∨ mi = 234 ∨ mi = 235 ∨ mi = 236 ∨ mi = 237 ∨ mi = 238 ∨ mi = 239 := by omega
      rcases hz with rfl | rfl | rfl | rfl | rfl | rfl | rfl | rfl
      · simp
      · simp
      · simp
      · simp
      · simp
      · simp
      · simp
      · simp)
    exact hz
def q_isSp (a : Nat) : Bool := Nat.beq a 0 || (Nat.beq a 2 || (Nat.beq a 54 || (Nat.beq a 78 || Nat.beq a 90)))
theorem q_ckW_all (mi : Nat) (h0 : q_isSp mi = false) (h : mi < 240) : q_ckW mi = true := by
  rcases (by omega : (0 ≤ mi ∧ mi < 8) ∨ (8 ≤ mi ∧ mi < 16) ∨ (16 ≤ mi ∧ mi < 24) ∨ (24 ≤ mi ∧ mi < 32) ∨ (32 ≤ mi ∧ mi < 40) ∨ (40 ≤ mi ∧ mi < 48) ∨ (48 ≤ mi ∧ mi < 56) ∨ (56 ≤ mi ∧ mi < 64) ∨ (64 ≤ mi ∧ mi < 72) ∨ (72 ≤ mi ∧ mi < 80) ∨ (80 ≤ mi ∧ mi < 88) ∨ (88 ≤ mi ∧ mi < 96) ∨ (96 ≤ mi ∧ mi < 104) ∨ (104 ≤ mi ∧ mi < 112) ∨ (112 ≤ mi ∧ mi < 120) ∨ (120 ≤ mi ∧ mi < 128) ∨ (128 ≤ mi ∧ mi < 136) ∨ (136 ≤ mi ∧ mi < 144) ∨ (144 ≤ mi ∧ mi < 152) ∨ (152 ≤ mi ∧ mi < 160) ∨ (160 ≤ mi ∧ mi < 168) ∨ (168 ≤ mi ∧ mi < 176) ∨ (176 ≤ mi ∧ mi < 184) ∨ (184 ≤ mi ∧ mi < 192) ∨ (192 ≤ mi ∧ mi < 200) ∨ (200 ≤ mi ∧ mi < 208) ∨ (208 ≤ mi ∧ mi < 216) ∨ (216 ≤ mi ∧ mi < 224) ∨ (224 ≤ mi ∧ mi < 232) ∨ (232 ≤ mi ∧ mi < 240)) with q | q | q | q | q | q | q | q | q | q | q | q | q | q | q | q | q | q | q | q | q | q | q | q | q | q | q | q | q | q
  · have hz := List.all_eq_true.mp qk_W0 mi (by
      have hz : mi = 0 ∨ mi = 1 ∨ mi = 2 ∨ mi = 3 ∨ mi = 4 ∨ mi = 5 ∨ mi = 6 ∨ mi = 7 := by omega
      rcases hz with rfl | rfl | rfl | rfl | rfl | rfl | rfl | rfl
      · first | exact absurd rfl h0 | (cases h0)
      · simp
      · first | exact absurd rfl h0 | (cases h0)
      · simp
      · simp
      · simp
      · simp
      · simp)
    exact hz
  · have hz := List.all_eq_true.mp qk_W1 mi (by
      have hz : mi = 8 ∨ mi = 9 ∨ mi = 10 ∨ mi = 11 ∨ mi = 12 ∨ mi = 13 ∨ mi = 14 ∨ mi = 15 := by omega
      rcases hz with rfl | rfl | rfl | rfl | rfl | rfl | rfl | rfl
      · simp
      · simp
      · simp
      · simp
      · simp
      · simp
      · simp
      · simp)
    exact hz
  · have hz := List.all_eq_true.mp qk_W2 mi (by
      have hz : mi = 16 ∨ mi = 17 ∨ mi = 18 ∨ mi = 19 ∨ mi = 20 ∨ mi = 21 ∨ mi = 22 ∨ mi = 23 := by omega
      rcases hz with rfl | rfl | rfl | rfl | rfl | rfl | rfl | rfl
      · simp
      · simp
      · simp
      · simp
      · simp
      · simp
      · simp
      · simp)
    exact hz
  · have hz := List.all_eq_true.mp qk_W3 mi (by
      have hz : mi = 24 ∨ mi = 25 ∨ mi = 26 ∨ mi = 27 ∨ mi = 28 ∨ mi = 29 ∨ mi = 30 ∨ mi = 31 := by omega
      rcases hz with rfl | rfl | rfl | rfl | rfl | rfl | rfl | rfl
      · simp
      · simp
      · simp
      · simp
      · simp
      · simp
      · simp
      · simp)
    exact hz
  · have hz := List.all_eq_true.mp qk_W4 mi (by
      have hz : mi = 32 ∨ mi = 33 ∨ mi = 34 ∨ mi = 35 ∨ mi = 36 ∨ mi = 37 ∨ mi = 38 ∨ mi = 39 := by omega
      rcases hz with rfl | rfl | rfl | rfl | rfl | rfl | rfl | rfl
      · simp
      · simp
      · simp
      · simp
      · simp
      · simp
      · simp
      · simp)
    exact hz
  · have hz := List.all_eq_true.mp qk_W5 mi (by
      have hz : mi = 40 ∨ mi = 41 ∨ mi = 42 ∨ mi = 43 ∨ mi = 44 ∨ mi = 45 ∨ mi = 46 ∨ mi = 47 := by omega
      rcases hz with rfl | rfl | rfl | rfl | rfl | rfl | rfl | rfl
      · simp
      · simp
      · simp
      · simp
      · simp
      · simp
      · simp
      · simp)
    exact hz
  · have hz := List.all_eq_true.mp qk_W6 mi (by
      have hz : mi = 48 ∨ mi = 49 ∨ mi = 50 ∨ mi = 51 ∨ mi = 52 ∨ mi = 53 ∨ mi = 54 ∨ mi = 55 := by omega
      rcases hz with rfl | rfl | rfl | rfl | rfl | rfl | rfl | rfl
      · simp
      · simp
      · simp
      · simp
      · simp
      · simp
      · first | exact absurd rfl h0 | (cases h0)
      · simp)
    exact hz
  · have hz := List.all_eq_true.mp qk_W7 mi (by
      have hz : mi = 56 ∨ mi = 57 ∨ mi = 58 ∨ mi = 59 ∨ mi = 60 ∨ mi = 61 ∨ mi = 62 ∨ mi = 63 := by omega
      rcases hz with rfl | rfl | rfl | rfl | rfl | rfl | rfl | rfl
      · simp
      · simp
      · simp
      · simp
      · simp
      · simp
      · simp
      · simp)
    exact hz
  · have hz := List.all_eq_true.mp qk_W8 mi (by
      have hz : mi = 64 ∨ mi = 65 ∨ mi = 66 ∨ mi = 67 ∨ mi = 68 ∨ mi = 69 ∨ mi = 70 ∨ mi = 71 := by omega
      rcases hz with rfl | rfl | rfl | rfl | rfl | rfl | rfl | rfl
      · simp
      · simp
      · simp
      · simp
      · simp
      · simp
      · simp
      · simp)
    exact hz
  · have hz := List.all_eq_true.mp qk_W9 mi (by
      have hz : mi = 72 ∨ mi = 73 ∨ mi = 74 ∨ mi = 75 ∨ mi = 76 ∨ mi = 77 ∨ mi = 78 ∨ mi = 79 := by omega
      rcases hz with rfl | rfl | rfl | rfl | rfl | rfl | rfl | rfl
      · simp
      · simp
      · simp
      · simp
      · simp
      · simp
      · first | exact absurd rfl h0 | (cases h0)
      · simp)
    exact hz
  · have hz := List.all_eq_true.mp qk_W10 mi (by
      have hz : mi = 80 ∨ mi = 81 ∨ mi = 82 ∨ mi = 83 ∨ mi = 84 ∨ mi = 85 ∨ mi = 86 ∨ mi = 87 := by omega
      rcases hz with rfl | rfl | rfl | rfl | rfl | rfl | rfl | rfl
      · simp
      · simp
      · simp
      · simp
      · simp
      · simp
      · simp
      · simp)
    exact hz
  · have hz := List.all_eq_true.mp qk_W11 mi (by
      have hz : mi = 88 ∨ mi = 89 ∨ mi = 90 ∨ mi = 91 ∨ mi = 92 ∨ mi = 93 ∨ mi = 94 ∨ mi = 95 := by omega
      rcases hz with rfl | rfl | rfl | rfl | rfl | rfl | rfl | rfl
      · simp
      · simp
      · first | exact absurd rfl h0 | (cases h0)
      · simp
      · simp
      · simp
      · simp
      · simp)
    exact hz
  · have hz := List.all_eq_true.mp qk_W12 mi (by
      have hz : mi = 96 ∨ mi = 97 ∨ mi = 98 ∨ mi = 99 ∨ mi = 100 ∨ mi = 101 ∨ mi = 102 ∨ mi = 103 := by omega
      rcases hz with rfl | rfl | rfl | rfl | rfl | rfl | rfl | rfl
      · simp
      · simp
      · simp
      · simp
      · simp
      · simp
      · simp
      · simp)
    exact hz
  · have hz := List.all_eq_true.mp qk_W13 mi (by
      have hz : mi = 104 ∨ mi = 105 ∨ mi = 106 ∨ mi = 107 ∨ mi = 108 ∨ mi = 109 ∨ mi = 110 ∨ mi = 111 := by omega
      rcases hz with rfl | rfl | rfl | rfl | rfl | rfl | rfl | rfl
      · simp
      · simp
      · simp
      · simp
      · simp
      · simp
      · simp
      · simp)
    exact hz
  · have hz := List.all_eq_true.mp qk_W14 mi (by
      have hz : mi = 112 ∨ mi = 113 ∨ mi = 114 ∨ mi = 115 ∨ mi = 116 ∨ mi = 117 ∨ mi = 118 ∨ mi = 119 := by omega
      rcases hz with rfl | rfl | rfl | rfl | rfl | rfl | rfl | rfl
      · simp
      · simp
      · simp
      · simp
      · simp
      · simp
      · simp
      · simp)
    exact hz
  · have hz := List.all_eq_true.mp qk_W15 mi (by
      have hz : mi = 120 ∨ mi = 121 ∨ mi = 122 ∨ mi = 123 ∨ mi = 124 ∨ mi = 125 ∨ mi = 126 ∨ mi = 127 := by omega
      rcases hz with rfl | rfl | rfl | rfl | rfl | rfl | rfl | rfl
      · simp
      · simp
      · simp
      · simp
      · simp
      · simp
      · simp
      · simp)
    exact hz
  · have hz := List.all_eq_true.mp qk_W16 mi (by
      have hz : mi = 128 ∨ mi = 129 ∨ mi = 130 ∨ mi = 131 ∨ mi = 132 ∨ mi = 133 ∨ mi = 134 ∨ mi = 135 := by omega
      rcases hz with rfl | rfl | rfl | rfl | rfl | rfl | rfl | rfl
      · simp
      · simp
      · simp
      · simp
      · simp
      · simp
      · simp
      · simp)
    exact hz
  · have hz := List.all_eq_true.mp qk_W17 mi (by
      have hz : mi = 136 ∨ mi = 137 ∨ mi = 138 ∨ mi = 139 ∨ mi = 140 ∨ mi = 141 ∨ mi = 142 ∨ mi = 143 := by omega
      rcases hz with rfl | rfl | rfl | rfl | rfl | rfl | rfl | rfl
      · simp
      · simp
      · simp
      · simp
      · simp
      · simp
      · simp
      · simp)
    exact hz
  · have hz := List.all_eq_true.mp qk_W18 mi (by
      have hz : mi = 144 ∨ mi = 145 ∨ mi = 146 ∨ mi = 147 ∨ mi = 148 ∨ mi = 149 ∨ mi = 150 ∨ mi = 151 := by omega
      rcases hz with rfl | rfl | rfl | rfl | rfl | rfl | rfl | rfl
      · simp
      · simp
      · simp
      · simp
      · simp
      · simp
      · simp
      · simp)
    exact hz
  · have hz := List.all_eq_true.mp qk_W19 mi (by
      have hz : mi = 152 ∨ mi = 153 ∨ mi = 154 ∨ mi = 155 ∨ mi = 156 ∨ mi = 157 ∨ mi = 158 ∨ mi = 159 := by omega
      rcases hz with rfl | rfl | rfl | rfl | rfl | rfl | rfl | rfl
      · simp
      · simp
      · simp
      · simp
      · simp
      · simp
      · simp
      · simp)
    exact hz
  · have hz := List.all_eq_true.mp qk_W20 mi (by
      have hz : mi = 160 ∨ mi = 161 ∨ mi = 162 ∨ mi = 163 ∨ mi = 164 ∨ mi = 165 ∨ mi = 166 ∨ mi = 167 := by omega
      rcases hz with rfl | rfl | rfl | rfl | rfl | rfl | rfl | rfl
      · simp
      · simp
      · simp
      · simp
      · simp
      · simp
      · simp
      · simp)
    exact hz
  · have hz := List.all_eq_true.mp qk_W21 mi (by
      have hz : mi = 168 ∨ mi = 169 ∨ mi = 170 ∨ mi = 171 ∨ mi = 172 ∨ mi = 173 ∨ mi = 174 ∨ mi = 175 := by omega
      rcases hz with rfl | rfl | rfl | rfl | rfl | rfl | rfl | rfl
      · simp
      · simp
      · simp
      · simp
      · simp
      · simp
      · simp
      · simp)
    exact hz
  · have hz := List.all_eq_true.mp qk_W22 mi (by
      have hz : mi = 176 ∨ mi = 177 ∨ mi = 178 ∨ mi = 179 ∨ mi = 180 ∨ mi = 181 ∨ mi = 182 ∨ mi = 183 := by omega
      rcases hz with rfl | rfl | rfl | rfl | rfl | rfl | rfl | rfl
      · simp
      · simp
      · simp
      · simp
      · simp
      · simp
      · simp
      · simp)
    exact hz
  · have hz := List.all_eq_true.mp qk_W23 mi (by
      have hz : mi = 184 ∨ mi = 185 ∨ mi = 186 ∨ mi = 187 ∨ mi = 188 ∨ mi = 189 ∨ mi = 190 ∨ mi = 191 := by omega
      rcases hz with rfl | rfl | rfl | rfl | rfl | rfl | rfl | rfl
      · simp
      · simp
      · simp
      · simp
      · simp
      · simp
      · simp
      · simp)
    exact hz
  · have hz := List.all_eq_true.mp qk_W24 mi (by
      have hz : mi = 192 ∨ mi = 193 ∨ mi = 194 ∨ mi = 195 ∨ mi = 196 ∨ mi = 197 ∨ mi = 198 ∨ mi = 199 := by omega
      rcases hz with rfl | rfl | rfl | rfl | rfl | rfl | rfl | rfl
      · simp
      · simp
      · simp
      · simp
      · simp
      · simp
      · simp
      · simp)
    exact hz
  · have hz := List.all_eq_true.mp qk_W25 mi (by
      have hz : mi = 200 ∨ mi = 201 ∨ mi = 202 ∨ mi = 203 ∨ mi = 204 ∨ mi = 205 ∨ mi = 206 ∨ mi = 207 := by omega
      rcases hz with rfl | rfl | rfl | rfl | rfl | rfl | rfl | rfl
      · simp
      · simp
      · simp
      · simp
      · simp
      · simp
      · simp
      · simp)
    exact hz
  · have hz := List.all_eq_true.mp qk_W26 mi (by
      have hz : mi = 208 ∨ mi = 209 ∨ mi = 210 ∨ mi = 211 ∨ mi = 212 ∨ mi = 213 ∨ mi = 214 ∨ mi = 215 := by omega
      rcases hz with rfl | rfl | rfl | rfl | rfl | rfl | rfl | rfl
      · simp
      · simp
      · simp
      · simp
      · simp
      · simp
      · simp
      · simp)
    exact hz
  · have hz := List.all_eq_true.mp qk_W27 mi (by
      have hz : mi = 216 ∨ mi = 217 ∨ mi = 218 ∨ mi = 219 ∨ mi = 220 ∨ mi = 221 ∨ mi = 222 ∨ mi = 223 := by omega
      rcases hz with rfl | rfl | rfl | rfl | rfl | rfl | rfl | rfl
      · simp
      · simp
      · simp
      · simp
      · simp
      · simp
      · simp
      · simp)
    exact hz
  · have hz := List.all_eq_true.mp qk_W28 mi (by
      have hz : mi = 224 ∨ mi = 225 ∨ mi = 226 ∨ mi = 227 ∨ mi = 228 ∨ mi = 229 ∨ mi = 230 ∨ mi = 231 := by omega
      rcases hz with rfl | rfl | rfl | rfl | rfl | rfl | rfl | rfl
      · simp
      · simp
      · simp
      · simp
      · simp
      · simp
      · simp
      · simp)
    exact hz
  · have hz := List.all_eq_true.mp qk_W29 mi (by
      have hz : mi = 232 ∨ mi = 233 ∨ mi = 234 ∨ mi = 235 ∨ mi = 236 ∨ mi = 237 ∨ mi = 238 ∨ mi = 239 := by omega
      rcases hz with rfl | rfl | rfl | rfl | rfl | rfl | rfl | rfl
      · simp
      · simp
      · simp
      · simp
      · simp
      · simp
      · simp
      · simp)
    exact hz
theorem q_fact_all {mi k : Nat} {op : qI} (h : mi < 240) (hk : (q_code mi)[k]? = some op) : q_fact mi k op := by
  by_cases h0 : mi = 0
  · subst h0; exact q_fact_law k op hk
  · exact q_fact_M (q_ckM_all mi h0 h) k op hk
theorem q_MF_all {a : Nat} (h0 : q_isSp a = false) (h : a < 240) : q_MF a := by
  have h1 := q_ckW_all a h0 h
  unfold q_ckW at h1
  simp only [Bool.and_eq_true, decide_eq_true_eq] at h1
  obtain ⟨a1, a2, a3, a4, a5⟩ := h1
  exact ⟨List.mem_filter.mpr ⟨q_at_mem a1, rfl⟩, List.mem_filter.mpr ⟨q_at_mem a2, rfl⟩, a3, a4, a5⟩
theorem q_pc0 (mi : Nat) (h : mi < 240) : (q_pcs mi)[0]? = some 0 := by
  by_cases h0 : mi = 0
  · subst h0; decide +kernel
  · have := q_ckM_all mi h0 h
    unfold q_ckM at this
    rw [Bool.and_eq_true, decide_eq_true_eq] at this
    exact this.2
