/-! a stretch of a method's run, from one place to another -/
def q_part : Nat → Nat → Nat → qLo → List qV → qE → qW → Option (Nat × qLo × List qV × qE × qW)
  | 0, mi, k, loc, st, E, w => if k < (q_code mi).length then some (k, loc, st, E, w) else none
  | n + 1, mi, k, loc, st, E, w => match (q_code mi)[k]? with
    | none => none
    | some op => match q_new op st E w with
      | some (s', E', w') => q_part n mi (k + 1) loc s' E' w'
      | none => match q_step mi op loc st E.1 w with
        | some (.inl (g, l', s', w')) => if g.all (fun q => q_condb q.1 q.2.1 q.2.2) = true then q_part n mi (k + 1) l' s' E w' else none
        | some (.inr (.inr (.inr (.inr (.inl (m, as, l', s', w')))))) => (match q_run 4000 m (q_code m) (q_entry (q_ml m) as) [] E w' with
          | none => none
          | some (v, E', w2) => q_part n mi (k + 1) l' (v.toList ++ s') E' w2)
        | _ => none
theorem q_part_in : ∀ (n mi k : Nat) (loc : qLo) (st : List qV) (E : qE) (w : qW) (r : Nat × qLo × List qV × qE × qW), q_part n mi k loc st E w = some r → k < (q_code mi).length
  | 0, mi, k, loc, st, E, w, r, h => by
    unfold q_part at h
    split at h
    · assumption
    · cases h
  | n + 1, mi, k, loc, st, E, w, r, h => by
    unfold q_part at h
    split at h
    · cases h
    · rename_i op ho
      exact (List.getElem?_eq_some_iff.mp ho).1
theorem q_part_keeps : ∀ (n mi k : Nat) (loc : qLo) (st : List qV) (E : qE) (w : qW) (k1 : Nat) (l1 : qLo) (s1 : List qV) (E1 : qE) (w1 : qW), q_part n mi k loc st E w = some (k1, l1, s1, E1, w1) → q_e1 E.1 → q_e1 E1.1 ∧ E.2.1 ≤ E1.2.1 ∧ E.2.2 ≤ E1.2.2
  | 0, mi, k, loc, st, E, w, _, _, _, _, _, h, he => by
    unfold q_part at h
    split at h
    · cases h; exact ⟨he, Nat.le_refl _, Nat.le_refl _⟩
    · cases h
  | n + 1, mi, k, loc, st, E, w, k1, l1, s1, E1, w1, h, he => by
    unfold q_part at h
    split at h
    · cases h
    · rename_i op ho
      split at h
      · rename_i s' E' w' hn
        obtain ⟨a1, a2, a5, a3, a4⟩ := q_new_scr hn he
        obtain ⟨b1, b2, b3⟩ := q_part_keeps n _ _ _ _ _ _ _ _ _ _ _ h a2
        exact ⟨b1, by omega, by omega⟩
      · split at h
        · split at h
          · exact q_part_keeps n _ _ _ _ _ _ _ _ _ _ _ h he
          · cases h
        · split at h
          · cases h
          · rename_i v E' w2 hc
            have hk := q_run_keeps _ _ _ _ _ _ _ _ _ _ hc he
            obtain ⟨b1, b2, b3⟩ := q_part_keeps n _ _ _ _ _ _ _ _ _ _ _ h hk.2.1
            have := hk.2.2.2
            exact ⟨b1, by omega, by omega⟩
        · cases h
section QP
variable {p : Program} {l : Launch} {e : Env} {R : Room} {s : State} {m : MethodId} {args : Array Value} {below : List Frame} {meth : Method} {c : Code} {D : va_G} {dA : Nat → ClassId} {A : Nat → Prop} {H0 : Heap} {Q : State → Prop} {mi : Nat} {ov : Option qV} {E' : qE} {w' : qW}
theorem q_part_sound (hmi : mi < 240) (hC : q_Cx p R s m args meth c mi) (hK : va_K D q_cls (q_tys dA) s) (hN : q_Nt s) (hA : ∀ q, H0.size ≤ q → A q) : ∀ (n k : Nat) (loc : qLo) (st : List qV) (E : qE) (w : qW) (k1 : Nat) (l1 : qLo) (s1 : List qV) (E1 : qE) (w1 : qW), q_part n mi k loc st E w = some (k1, l1, s1, E1, w1) → q_e1 E.1 → E1.2.1 ≤ E'.2.1 ∧ E1.2.2 ≤ E'.2.2 → q_Good p l e R s m args below meth c D dA A H0 Q mi ov E' w' (q_pcA mi k1) l1 s1 E1 w1 → q_Good p l e R s m args below meth c D dA A H0 Q mi ov E' w' (q_pcA mi k) loc st E w
  | 0, k, loc, st, E, w, _, _, _, _, _, h, he, h4, hG => by
    unfold q_part at h
    split at h
    · cases h; exact hG
    · cases h
  | n + 1, k, loc, st, E, w, k1, l1, s1, E1, w1, h, he, h4, hG => by
    unfold q_part at h
    split at h
    · cases h
    · rename_i op hk
      obtain ⟨pc, hh, hpc, hck, len, hdg, hlen, hnext⟩ := q_fact_all hmi hk
      have hck2 := q_ck2_at hmi (List.mem_of_getElem? hk)
      rw [q_pcA_of hpc]
      have next : ∀ {l2 s2 E2 w2}, q_part n mi (k + 1) l2 s2 E2 w2 = some (k1, l1, s1, E1, w1) → q_e1 E2.1 → q_Good p l e R s m args below meth c D dA A H0 Q mi ov E' w' (pc + len) l2 s2 E2 w2 := by
        intro l2 s2 E2 w2 hr he2
        have := q_part_sound hmi hC hK hN hA n (k + 1) l2 s2 E2 w2 k1 l1 s1 E1 w1 hr he2 h4 hG
        rw [q_pcA_of (hnext (q_part_in _ _ _ _ _ _ _ _ hr))] at this
        exact this
      split at h
      · rename_i s' E2 w2 hn
        obtain ⟨a1, a2, a5, a3, a4⟩ := q_new_scr hn he
        have hkp := q_part_keeps n _ _ _ _ _ _ _ _ _ _ _ h a2
        exact q_new_sound hC hK hA hdg hlen hck hn ⟨by omega, by omega⟩ (next h a2)
      · refine q_step_sound hC hK hN hA hdg hlen hck hck2 ?_
        split at h
        · rename_i g l' s' w2 hq
          split at h
          · rename_i hg
            rw [hq]
            exact ⟨hg, next h he⟩
          · cases h
        · rename_i a as l' s' w2 hq
          split at h
          · cases h
          · rename_i v E3 w3 hcall
            have hk1 := q_run_keeps _ _ _ _ _ _ _ _ _ _ hcall he
            have hk2 := q_part_keeps n _ _ _ _ _ _ _ _ _ _ _ h hk1.2.1
            have ha : a < 240 := by
              rcases Nat.lt_or_ge a 240 with q | q
              · exact q
              · rw [q_code_big (by omega), q_run_nil] at hcall
                cases hcall
            rw [hq]
            exact ⟨v, E3, w3, ⟨ha, fun hsp hle ad rs sz hV hok => q_met_of (q_sound 4000) ha hsp hle he hcall l D dA ad rs sz hV hok, hk1.2.2.2, ⟨by omega, by omega⟩, hk1.1, hk1.2.2.1⟩, next h hk1.2.1⟩
        · cases h
end QP
/-! the law's beginning: all objects made -/
def q_pl : List (List Nat) := [[], [], [0], [166], [165], [167, 169, 171, 173], [168, 170, 172, 174], [1], [20], [21], [22], [2], [3], [4, 27], [5, 28], [6, 29], [7, 30], [8, 31], [9, 32], [10, 11, 12, 13, 14, 15, 16, 17, 18, 33, 34, 35, 36, 37, 38, 39, 40, 41], [19, 42], [23], [24], [25], [26], [43], [52, 56, 60, 64, 68, 72, 76, 80, 84, 88, 92, 96, 100, 104, 108, 112, 116, 120, 124, 128, 44], [53, 57, 61, 65, 69, 73, 77, 81, 85, 89, 93, 97, 101, 105, 109, 113, 117, 121, 125, 129, 45], [46], [47], [48], [49], [50, 54, 58, 62, 66, 70, 74, 78, 82, 86, 90, 94, 98, 102, 106, 110, 114, 118, 122, 126], [51, 55, 59, 63, 67, 71, 75, 79, 83, 87, 91, 95, 99, 103, 107, 111, 115, 119, 123, 127], [130], [131, 148], [132, 133, 134, 135, 136, 137, 138, 139, 140, 141, 142, 143, 144, 145, 146, 147, 149, 150, 151, 152, 153, 154, 155, 156, 157, 158, 159, 160, 161, 162, 163, 164], [175], [176], [177], [178], [179], [180], [181], [182], [183], [184], [185], [186], [187], [188], [189], [190], [191], [192], [193], [194], [195], [196]]
/-- in which order the objects are made -/
def q_perm (r : qR) : Nat := (q_pl.getD r.1 []).getD r.2 0
def q_permI : List qR := [(t_GC, 0), (t_Re, 0), (t_Ta, 0), (t_bytes, 0), (t_Di, 0), (t_plus, 0), (t_atLeft, 0), (t_atTop, 0), (t_below, 0), (t_paths, 0), (t_pathRow, 0), (t_pathRow, 1), (t_pathRow, 2), (t_pathRow, 3), (t_pathRow, 4), (t_pathRow, 5), (t_pathRow, 6), (t_pathRow, 7), (t_pathRow, 8), (t_minors, 0), (t_sets, 0), (t_begins, 0), (t_reImg, 0), (t_Ce, 0), (t_img, 0), (t_nl, 0), (t_bl, 0), (t_Di, 1), (t_plus, 1), (t_atLeft, 1), (t_atTop, 1), (t_below, 1), (t_paths, 1), (t_pathRow, 9), (t_pathRow, 10), (t_pathRow, 11), (t_pathRow, 12), (t_pathRow, 13), (t_pathRow, 14), (t_pathRow, 15), (t_pathRow, 16), (t_pathRow, 17), (t_minors, 1), (t_inB, 0), (t_Co, 20), (t_coSets, 20), (t_Ne, 0), (t_neImg, 0), (t_Pa, 0), (t_ring, 0), (t_Mo, 0), (t_moImg, 0), (t_Co, 0), (t_coSets, 0), (t_Mo, 1), (t_moImg, 1), (t_Co, 1), (t_coSets, 1), (t_Mo, 2), (t_moImg, 2), (t_Co, 2), (t_coSets, 2), (t_Mo, 3), (t_moImg, 3), (t_Co, 3), (t_coSets, 3), (t_Mo, 4), (t_moImg, 4), (t_Co, 4), (t_coSets, 4), (t_Mo, 5), (t_moImg, 5), (t_Co, 5), (t_coSets, 5), (t_Mo, 6), (t_moImg, 6), (t_Co, 6), (t_coSets, 6), (t_Mo, 7), (t_moImg, 7), (t_Co, 7), (t_coSets, 7), (t_Mo, 8), (t_moImg, 8), (t_Co, 8), (t_coSets, 8), (t_Mo, 9), (t_moImg, 9), (t_Co, 9), (t_coSets, 9), (t_Mo, 10), (t_moImg, 10), (t_Co, 10), (t_coSets, 10), (t_Mo, 11), (t_moImg, 11), (t_Co, 11), (t_coSets, 11), (t_Mo, 12), (t_moImg, 12), (t_Co, 12), (t_coSets, 12), (t_Mo, 13), (t_moImg, 13), (t_Co, 13), (t_coSets, 13), (t_Mo, 14), (t_moImg, 14), (t_Co, 14), (t_coSets, 14), (t_Mo, 15), (t_moImg, 15), (t_Co, 15), (t_coSets, 15), (t_Mo, 16), (t_moImg, 16), (t_Co, 16), (t_coSets, 16), (t_Mo, 17), (t_moImg, 17), (t_Co, 17), (t_coSets, 17), (t_Mo, 18), (t_moImg, 18), (t_Co, 18), (t_coSets, 18), (t_Mo, 19), (t_moImg, 19), (t_Co, 19), (t_coSets, 19), (t_Cs, 0), (t_tab, 0), (t_tabRow, 0), (t_tabRow, 1), (t_tabRow, 2), (t_tabRow, 3), (t_tabRow, 4), (t_tabRow, 5), (t_tabRow, 6), (t_tabRow, 7), (t_tabRow, 8), (t_tabRow, 9), (t_tabRow, 10), (t_tabRow, 11), (t_tabRow, 12), (t_tabRow, 13), (t_tabRow, 14), (t_tabRow, 15), (t_tab, 1), (t_tabRow, 16), (t_tabRow, 17), (t_tabRow, 18), (t_tabRow, 19), (t_tabRow, 20), (t_tabRow, 21), (t_tabRow, 22), (t_tabRow, 23), (t_tabRow, 24), (t_tabRow, 25), (t_tabRow, 26), (t_tabRow, 27), (t_tabRow, 28), (t_tabRow, 29), (t_tabRow, 30), (t_tabRow, 31), (t_shelves, 0), (t_scratch, 0), (t_Sh, 0), (t_shBL, 0), (t_Sh, 1), (t_shBL, 1), (t_Sh, 2), (t_shBL, 2), (t_Sh, 3), (t_shBL, 3), (t_Md, 0), (t_mTape, 0), (t_mWords, 0), (t_mReadF, 0), (t_mPlaces, 0), (t_mReadSet, 0), (t_mBoxes, 0), (t_mF, 0), (t_mNeck, 0), (t_mIsB, 0), (t_mInC, 0), (t_mPartOf, 0), (t_mCome, 0), (t_mMatrix, 0), (t_mWas, 0), (t_mOther, 0), (t_mIsNew, 0), (t_mNewNeck, 0), (t_mTried, 0), (t_mShN, 0), (t_mShF, 0), (t_mItsNeck, 0)]
def q_w00 : qW := (fun _ _ _ => 0, fun _ _ _ => 0, fun _ _ _ => none)
def q_p1 : Option (Nat × qLo × List qV × qE × qW) := q_part 10 0 0 (q_entry 4 [.inr (.inr (1, 0))]) [] (fun _ => none, 0, 0) q_w00
def q_words : List Int := [112, 101, 114, 109, 102, 105, 108, 108, 110, 101, 99, 107]
/-- references, ints of one object or row, as they are due -/
def q_p1r (w : qW) (r : qR) : Bool := match q_env r with
  | some (0, c) => (List.range (q_ft c).length).all (fun b => decide ((q_ft c)[b]? = some 2 → w.2.2 0 (q_perm r) b = (q_R 0 r.1 r.2 b).map (fun x => (0, q_perm x))) && decide ((q_ft c)[b]? = some 0 → w.1 0 (q_perm r) b = 0))
  | some (k, n) => if 5 ≤ k then (List.range n).all (fun b => decide (w.2.2 0 (q_perm r) b = (q_R 0 r.1 r.2 b).map (fun x => (0, q_perm x)))) else if k = 4 then true else (List.range n).all (fun b => decide (w.1 0 (q_perm r) b = if r.1 = t_mWords then q_words.getD b 0 else 0))
  | none => false
def q_p1ok : Bool := match q_p1 with
  | some (k, loc, st, E, w) => decide (k = 10) && (decide (loc = [some (.inr (.inr (1, 0))), some (.inr (.inr (0, q_perm (t_GC, 0)))), some (.inr (.inr (0, q_perm (t_Md, 0)))), some (.inl 0)]) && (decide (st = []) && (decide (E.2.1 = 197) && (decide (E.2.2 = 5573) && q_refs.all (fun r => decide (E.1 (0, q_perm r) = q_env r) && q_p1r w r)))))
  | none => false
theorem q_p1_ok : q_p1ok = true := by decide +kernel
theorem q_perm_ok : (q_refs.all fun r => decide (q_perm r < 197) && decide (q_permI[q_perm r]? = some r)) = true := by decide +kernel
