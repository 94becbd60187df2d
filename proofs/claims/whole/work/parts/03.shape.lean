/-! printed by wip/whole/shape.py: the objects as they stand behind the constructors -/
abbrev t_none : Nat := 0
abbrev t_script : Nat := 1
abbrev t_GC : Nat := 2
abbrev t_scratch : Nat := 3
abbrev t_shelves : Nat := 4
abbrev t_Sh : Nat := 5
abbrev t_shBL : Nat := 6
abbrev t_Re : Nat := 7
abbrev t_sets : Nat := 8
abbrev t_begins : Nat := 9
abbrev t_reImg : Nat := 10
abbrev t_Ta : Nat := 11
abbrev t_bytes : Nat := 12
abbrev t_Di : Nat := 13
abbrev t_plus : Nat := 14
abbrev t_atLeft : Nat := 15
abbrev t_atTop : Nat := 16
abbrev t_below : Nat := 17
abbrev t_paths : Nat := 18
abbrev t_pathRow : Nat := 19
abbrev t_minors : Nat := 20
abbrev t_Ce : Nat := 21
abbrev t_img : Nat := 22
abbrev t_nl : Nat := 23
abbrev t_bl : Nat := 24
abbrev t_inB : Nat := 25
abbrev t_Co : Nat := 26
abbrev t_coSets : Nat := 27
abbrev t_Ne : Nat := 28
abbrev t_neImg : Nat := 29
abbrev t_Pa : Nat := 30
abbrev t_ring : Nat := 31
abbrev t_Mo : Nat := 32
abbrev t_moImg : Nat := 33
abbrev t_Cs : Nat := 34
abbrev t_tab : Nat := 35
abbrev t_tabRow : Nat := 36
abbrev t_Md : Nat := 37
abbrev t_mTape : Nat := 38
abbrev t_mWords : Nat := 39
abbrev t_mReadF : Nat := 40
abbrev t_mPlaces : Nat := 41
abbrev t_mReadSet : Nat := 42
abbrev t_mBoxes : Nat := 43
abbrev t_mF : Nat := 44
abbrev t_mNeck : Nat := 45
abbrev t_mIsB : Nat := 46
abbrev t_mInC : Nat := 47
abbrev t_mPartOf : Nat := 48
abbrev t_mCome : Nat := 49
abbrev t_mMatrix : Nat := 50
abbrev t_mWas : Nat := 51
abbrev t_mOther : Nat := 52
abbrev t_mIsNew : Nat := 53
abbrev t_mNewNeck : Nat := 54
abbrev t_mTried : Nat := 55
abbrev t_mShN : Nat := 56
abbrev t_mShF : Nat := 57
abbrev t_mItsNeck : Nat := 58
def q_kl_0 : List (Option (Nat × Nat)) := [none, some (99, 0), some (0, 10), some (1, 9), some (15, 4), some (0, 8), some (1, 70), some (0, 7)]
def q_kl_1 : List (Option (Nat × Nat)) := [some (1, 9), some (1, 9), some (1, 9), some (0, 9), some (1, 160), some (0, 3), some (1, 9), some (1, 9)]
def q_kl_2 : List (Option (Nat × Nat)) := [some (1, 9), some (4, 9), some (6, 9), some (4, 9), some (4, 256), some (0, 0), some (1, 9), some (1, 9)]
def q_kl_3 : List (Option (Nat × Nat)) := [some (1, 70), some (3, 256), some (0, 2), some (1, 70), some (0, 5), some (1, 9), some (0, 6), some (11, 20)]
def q_kl_4 : List (Option (Nat × Nat)) := [some (0, 4), some (1, 9), some (0, 1), some (5, 16), some (1, 13), some (0, 11), some (2, 160), some (2, 12)]
def q_kl_5 : List (Option (Nat × Nat)) := [some (1, 10), some (1, 10), some (1, 10), some (1, 81), some (1, 10), some (1, 10), some (3, 256), some (3, 256)]
def q_kl_6 : List (Option (Nat × Nat)) := [some (1, 10), some (4, 81), some (4, 16), some (1, 400), some (1, 10), some (3, 256), some (1, 10), some (1, 10)]
def q_kl_7 : List (Option (Nat × Nat)) := [some (1, 4), some (1, 40), some (1, 10)]
def q_kl_all : List (List (Option (Nat × Nat))) := [q_kl_0, q_kl_1, q_kl_2, q_kl_3, q_kl_4, q_kl_5, q_kl_6, q_kl_7]
def q_kind (t : Nat) : Option (Nat × Nat) := match q_kl_all[t / 8]? with
  | some l => (match l[t % 8]? with
    | some c => c
    | none => none)
  | none => none
def q_env : qR → Option (Nat × Nat)
  | (t, _) => q_kind t
def q_rl_0 : List (Nat → Nat → Nat → Option qR) := [(fun _ _ _ => none), (fun _ _ _ => none), (fun b i k => match k with | 0 => some (t_Re, 0) | 1 => some (t_Ce, 0) | 2 => some (t_Co, 20) | 3 => some (t_Ne, 0) | 4 => some (t_Pa, 0) | 5 => some (t_Cs, 0) | 6 => some (t_shelves, 0) | 7 => some (t_scratch, 0) | _ => none), (fun _ _ _ => none), (fun _ i k => some (t_Sh, k)), (fun b i k => match k with | 3 => some (t_shBL, i) | _ => none), (fun _ _ _ => none), (fun b i k => match k with | 0 => some (t_Ta, 0) | 1 => some (t_Di, 0) | 2 => some (t_sets, 0) | 3 => some (t_begins, 0) | 6 => some (t_reImg, 0) | _ => none)]
def q_rl_1 : List (Nat → Nat → Nat → Option qR) := [(fun _ _ _ => none), (fun _ _ _ => none), (fun _ _ _ => none), (fun b i k => match k with | 0 => some (t_bytes, 0) | _ => none), (fun _ _ _ => none), (fun b i k => match k with | 2 => some (t_plus, i) | 3 => some (t_atLeft, i) | 4 => some (t_atTop, i) | 5 => some (t_below, i) | 6 => some (t_paths, i) | 7 => some (t_minors, i) | _ => none), (fun _ _ _ => none), (fun _ _ _ => none)]
def q_rl_2 : List (Nat → Nat → Nat → Option qR) := [(fun _ _ _ => none), (fun _ _ _ => none), (fun _ i k => some (t_pathRow, 9 * i + k)), (fun _ _ _ => none), (fun _ _ _ => none), (fun b i k => match k with | 4 => some (t_img, 0) | 5 => some (t_nl, 0) | 6 => some (t_bl, 0) | 7 => some (t_Di, 1) | 8 => some (t_inB, 0) | _ => none), (fun _ _ _ => none), (fun _ _ _ => none)]
def q_rl_3 : List (Nat → Nat → Nat → Option qR) := [(fun _ _ _ => none), (fun _ _ _ => none), (fun b i k => match k with | 0 => some (t_coSets, i) | _ => none), (fun _ _ _ => none), (fun b i k => match k with | 0 => some (t_neImg, 0) | _ => none), (fun _ _ _ => none), (fun b i k => match k with | 0 => some (t_ring, 0) | _ => none), (fun _ i k => some (t_Mo, k))]
def q_rl_4 : List (Nat → Nat → Nat → Option qR) := [(fun b i k => match k with | 0 => some (t_moImg, i) | 1 => some (t_Co, i) | _ => none), (fun _ _ _ => none), (fun b i k => match k with | 0 => (match i with | 0 => some (t_tab, b) | _ => none) | 1 => (match i with | 0 => some (t_tab, 1 - b) | _ => none) | _ => none), (fun _ i k => some (t_tabRow, 16 * i + k)), (fun _ _ _ => none), (fun b i k => match k with | 0 => some (t_mTape, 0) | 4 => some (t_mWords, 0) | 6 => some (t_mReadF, 0) | 7 => some (t_mPlaces, 0) | 8 => some (t_mReadSet, 0) | 9 => some (t_mBoxes, 0) | 11 => some (t_mF, 0) | 13 => some (t_mNeck, 0) | 14 => some (t_mIsB, 0) | 15 => some (t_mInC, 0) | 16 => some (t_mPartOf, 0) | 17 => some (t_mCome, 0) | 18 => some (t_mMatrix, 0) | 19 => some (t_mWas, 0) | 21 => some (t_mOther, 0) | 22 => some (t_mIsNew, 0) | 23 => some (t_mNewNeck, 0) | 24 => some (t_mTried, 0) | 25 => some (t_mShN, 0) | 26 => some (t_mShF, 0) | 27 => some (t_mItsNeck, 0) | _ => none), (fun _ _ _ => none), (fun _ _ _ => none)]
def q_rl_5 : List (Nat → Nat → Nat → Option qR) := [(fun _ _ _ => none), (fun _ _ _ => none), (fun _ _ _ => none), (fun _ _ _ => none), (fun _ _ _ => none), (fun _ _ _ => none), (fun _ _ _ => none), (fun _ _ _ => none)]
def q_rl_6 : List (Nat → Nat → Nat → Option qR) := [(fun _ _ _ => none), (fun _ _ _ => none), (fun _ _ _ => none), (fun _ _ _ => none), (fun _ _ _ => none), (fun _ _ _ => none), (fun _ _ _ => none), (fun _ _ _ => none)]
def q_rl_7 : List (Nat → Nat → Nat → Option qR) := [(fun _ _ _ => none), (fun _ _ _ => none), (fun _ _ _ => none)]
def q_rl_all : List (List (Nat → Nat → Nat → Option qR)) := [q_rl_0, q_rl_1, q_rl_2, q_rl_3, q_rl_4, q_rl_5, q_rl_6, q_rl_7]
def q_R (b t i k : Nat) : Option qR := match q_rl_all[t / 8]? with
  | some l => (match l[t % 8]? with
    | some f => f b i k
    | none => none)
  | none => none
def q_refs : List qR := [(t_GC, 0), (t_scratch, 0), (t_shelves, 0), (t_Sh, 0), (t_Sh, 1), (t_Sh, 2), (t_Sh, 3), (t_shBL, 0), (t_shBL, 1), (t_shBL, 2), (t_shBL, 3), (t_Re, 0), (t_sets, 0), (t_begins, 0), (t_reImg, 0), (t_Ta, 0), (t_bytes, 0), (t_Di, 0), (t_Di, 1), (t_plus, 0), (t_plus, 1), (t_atLeft, 0), (t_atLeft, 1), (t_atTop, 0), (t_atTop, 1), (t_below, 0), (t_below, 1), (t_paths, 0), (t_paths, 1), (t_pathRow, 0), (t_pathRow, 1), (t_pathRow, 2), (t_pathRow, 3), (t_pathRow, 4), (t_pathRow, 5), (t_pathRow, 6), (t_pathRow, 7), (t_pathRow, 8), (t_pathRow, 9), (t_pathRow, 10), (t_pathRow, 11), (t_pathRow, 12), (t_pathRow, 13), (t_pathRow, 14), (t_pathRow, 15), (t_pathRow, 16), (t_pathRow, 17), (t_minors, 0), (t_minors, 1), (t_Ce, 0), (t_img, 0), (t_nl, 0), (t_bl, 0), (t_inB, 0), (t_Co, 0), (t_Co, 1), (t_Co, 2), (t_Co, 3), (t_Co, 4), (t_Co, 5), (t_Co, 6), (t_Co, 7), (t_Co, 8), (t_Co, 9), (t_Co, 10), (t_Co, 11), (t_Co, 12), (t_Co, 13), (t_Co, 14), (t_Co, 15), (t_Co, 16), (t_Co, 17), (t_Co, 18), (t_Co, 19), (t_Co, 20), (t_coSets, 0), (t_coSets, 1), (t_coSets, 2), (t_coSets, 3), (t_coSets, 4), (t_coSets, 5), (t_coSets, 6), (t_coSets, 7), (t_coSets, 8), (t_coSets, 9), (t_coSets, 10), (t_coSets, 11), (t_coSets, 12), (t_coSets, 13), (t_coSets, 14), (t_coSets, 15), (t_coSets, 16), (t_coSets, 17), (t_coSets, 18), (t_coSets, 19), (t_coSets, 20), (t_Ne, 0), (t_neImg, 0), (t_Pa, 0), (t_ring, 0), (t_Mo, 0), (t_Mo, 1), (t_Mo, 2), (t_Mo, 3), (t_Mo, 4), (t_Mo, 5), (t_Mo, 6), (t_Mo, 7), (t_Mo, 8), (t_Mo, 9), (t_Mo, 10), (t_Mo, 11), (t_Mo, 12), (t_Mo, 13), (t_Mo, 14), (t_Mo, 15), (t_Mo, 16), (t_Mo, 17), (t_Mo, 18), (t_Mo, 19), (t_moImg, 0), (t_moImg, 1), (t_moImg, 2), (t_moImg, 3), (t_moImg, 4), (t_moImg, 5), (t_moImg, 6), (t_moImg, 7), (t_moImg, 8), (t_moImg, 9), (t_moImg, 10), (t_moImg, 11), (t_moImg, 12), (t_moImg, 13), (t_moImg, 14), (t_moImg, 15), (t_moImg, 16), (t_moImg, 17), (t_moImg, 18), (t_moImg, 19), (t_Cs, 0), (t_tab, 0), (t_tab, 1), (t_tabRow, 0), (t_tabRow, 1), (t_tabRow, 2), (t_tabRow, 3), (t_tabRow, 4), (t_tabRow, 5), (t_tabRow, 6), (t_tabRow, 7), (t_tabRow, 8), (t_tabRow, 9), (t_tabRow, 10), (t_tabRow, 11), (t_tabRow, 12), (t_tabRow, 13), (t_tabRow, 14), (t_tabRow, 15), (t_tabRow, 16), (t_tabRow, 17), (t_tabRow, 18), (t_tabRow, 19), (t_tabRow, 20), (t_tabRow, 21), (t_tabRow, 22), (t_tabRow, 23), (t_tabRow, 24), (t_tabRow, 25), (t_tabRow, 26), (t_tabRow, 27), (t_tabRow, 28), (t_tabRow, 29), (t_tabRow, 30), (t_tabRow, 31), (t_Md, 0), (t_mTape, 0), (t_mWords, 0), (t_mReadF, 0), (t_mPlaces, 0), (t_mReadSet, 0), (t_mBoxes, 0), (t_mF, 0), (t_mNeck, 0), (t_mIsB, 0), (t_mInC, 0), (t_mPartOf, 0), (t_mCome, 0), (t_mMatrix, 0), (t_mWas, 0), (t_mOther, 0), (t_mIsNew, 0), (t_mNewNeck, 0), (t_mTried, 0), (t_mShN, 0), (t_mShF, 0), (t_mItsNeck, 0)]
