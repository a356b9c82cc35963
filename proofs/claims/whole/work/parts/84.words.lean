/-! ===== the reference's words: which sign stands where ===== -/
section QW
variable {n : Nat} {I : Nat → Nat → Int32} {J : Nat → Nat → Int64} {T : Nat}
theorem q_sgs {p : Nat} (hp : p < 256) (x : Nat) (hx : x < 256) (h0 : x ≠ 0) : (nI x = q_sg p) ↔ p = x := ⟨fun z => (q_sg_eq hp hx h0).mp z.symm, fun z => ((q_sg_eq hp hx h0).mpr z).symm⟩
theorem m_placeOf {kind p : Nat} (hn : 300 ≤ n) (hk : kind < 3) (hp : p < 256) : f_X12_placeOf n I J T (kind + 2) (q_sg p) = some (if q_itm kind p = 3 then -1 else nI (q_itm kind p)) := by
  obtain ⟨m, rfl⟩ : ∃ m, n = m + 4 := ⟨n - 4, by omega⟩
  unfold f_X12_placeOf
  have hs := q_sgs hp
  rcases (show kind = 0 ∨ kind = 1 ∨ kind = 2 by omega) with rfl | rfl | rfl
  · have l : f_J0_length_8abf5 (m + 4) I J T (0 + 2) = some 2 := rfl
    have a0 : f_J0_charAt_5068e (m + 4) I J T (0 + 2) 0 = some (nI 102) := rfl
    have a1 : f_J0_charAt_5068e (m + 4) I J T (0 + 2) (0 + 1) = some (nI 109) := rfl
    rw [show q_itm 0 p = (if p = 102 then 0 else if p = 109 then 1 else 3) from rfl]
    rw [f_X12_placeOf_2, if_pos (by decide), l, Option.bind_some, if_neg (by decide), if_pos (by decide), a0, Option.bind_some]
    by_cases c0 : p = 102
    · rw [if_pos ((hs 102 (by omega) (by omega)).mpr c0), if_pos c0]; rfl
    · rw [if_neg (fun z => c0 ((hs 102 (by omega) (by omega)).mp z)), if_neg c0, f_X12_placeOf_2, if_pos (by decide), l, Option.bind_some, if_neg (by decide), if_pos (by decide), a1, Option.bind_some]
      by_cases c1 : p = 109
      · rw [if_pos ((hs 109 (by omega) (by omega)).mpr c1), if_pos c1]; rfl
      · rw [if_neg (fun z => c1 ((hs 109 (by omega) (by omega)).mp z)), if_neg c1, f_X12_placeOf_2, if_pos (by decide), l, Option.bind_some, if_pos (by decide)]; rfl
  · have l : f_J0_length_8abf5 (m + 4) I J T (1 + 2) = some 3 := rfl
    have a0 : f_J0_charAt_5068e (m + 4) I J T (1 + 2) 0 = some (nI 116) := rfl
    have a1 : f_J0_charAt_5068e (m + 4) I J T (1 + 2) (0 + 1) = some (nI 119) := rfl
    have a2 : f_J0_charAt_5068e (m + 4) I J T (1 + 2) (0 + 1 + 1) = some (nI 115) := rfl
    rw [show q_itm 1 p = (if p = 116 then 0 else if p = 119 then 1 else if p = 115 then 2 else 3) from rfl]
    rw [f_X12_placeOf_2, if_pos (by decide), l, Option.bind_some, if_neg (by decide), if_pos (by decide), a0, Option.bind_some]
    by_cases c0 : p = 116
    · rw [if_pos ((hs 116 (by omega) (by omega)).mpr c0), if_pos c0]; rfl
    · rw [if_neg (fun z => c0 ((hs 116 (by omega) (by omega)).mp z)), if_neg c0, f_X12_placeOf_2, if_pos (by decide), l, Option.bind_some, if_neg (by decide), if_pos (by decide), a1, Option.bind_some]
      by_cases c1 : p = 119
      · rw [if_pos ((hs 119 (by omega) (by omega)).mpr c1), if_pos c1]; rfl
      · rw [if_neg (fun z => c1 ((hs 119 (by omega) (by omega)).mp z)), if_neg c1, f_X12_placeOf_2, if_pos (by decide), l, Option.bind_some, if_neg (by decide), if_pos (by decide), a2, Option.bind_some]
        by_cases c2 : p = 115
        · rw [if_pos ((hs 115 (by omega) (by omega)).mpr c2), if_pos c2]; rfl
        · rw [if_neg (fun z => c2 ((hs 115 (by omega) (by omega)).mp z)), if_neg c2, f_X12_placeOf_2, if_pos (by decide), l, Option.bind_some, if_pos (by decide)]; rfl
  · have l : f_J0_length_8abf5 (m + 4) I J T (2 + 2) = some 3 := rfl
    have a0 : f_J0_charAt_5068e (m + 4) I J T (2 + 2) 0 = some (nI 115) := rfl
    have a1 : f_J0_charAt_5068e (m + 4) I J T (2 + 2) (0 + 1) = some (nI 112) := rfl
    have a2 : f_J0_charAt_5068e (m + 4) I J T (2 + 2) (0 + 1 + 1) = some (nI 110) := rfl
    rw [show q_itm 2 p = (if p = 115 then 0 else if p = 112 then 1 else if p = 110 then 2 else 3) from rfl]
    rw [f_X12_placeOf_2, if_pos (by decide), l, Option.bind_some, if_neg (by decide), if_pos (by decide), a0, Option.bind_some]
    by_cases c0 : p = 115
    · rw [if_pos ((hs 115 (by omega) (by omega)).mpr c0), if_pos c0]; rfl
    · rw [if_neg (fun z => c0 ((hs 115 (by omega) (by omega)).mp z)), if_neg c0, f_X12_placeOf_2, if_pos (by decide), l, Option.bind_some, if_neg (by decide), if_pos (by decide), a1, Option.bind_some]
      by_cases c1 : p = 112
      · rw [if_pos ((hs 112 (by omega) (by omega)).mpr c1), if_pos c1]; rfl
      · rw [if_neg (fun z => c1 ((hs 112 (by omega) (by omega)).mp z)), if_neg c1, f_X12_placeOf_2, if_pos (by decide), l, Option.bind_some, if_neg (by decide), if_pos (by decide), a2, Option.bind_some]
        by_cases c2 : p = 110
        · rw [if_pos ((hs 110 (by omega) (by omega)).mpr c2), if_pos c2]; rfl
        · rw [if_neg (fun z => c2 ((hs 110 (by omega) (by omega)).mp z)), if_neg c2, f_X12_placeOf_2, if_pos (by decide), l, Option.bind_some, if_pos (by decide)]; rfl
end QW
/-! items and clauses, the reference -/
def q_kc (kind : Nat) : Int32 := if kind = 0 then 119 else if kind = 1 then 114 else 99
/-- where an item is laid -/
def q_lc (kind W R i : Nat) : Nat × Nat := if kind = 0 then (if i = 0 then (62, W + 1) else (63, W + 1)) else if kind = 1 then (64, 3 * R + i) else (65, i)
def q_iv (kind i : Nat) : Prop := i < 3 ∧ (kind = 0 → i < 2)
theorem q_itm_iv {kind p : Nat} (h : q_itm kind p ≠ 3) : q_iv kind (q_itm kind p) := by
  have h1 := q_itm_lt kind p
  refine ⟨by omega, fun hk => ?_⟩
  subst hk
  rw [show q_itm 0 p = (if p = 102 then 0 else if p = 109 then 1 else 3) from rfl] at h ⊢
  split at h
  · rename_i c
    rw [if_pos c]; omega
  · rename_i c
    rw [if_neg c]
    split at h
    · rename_i c2
      rw [if_pos c2]; omega
    · exact absurd rfl h
section QW
variable {n : Nat} {J : Nat → Nat → Int64} {T : Nat} {t : q_Tx}
theorem m_lay {I : Nat → Nat → Int32} {kind W R i : Nat} (hk : kind < 3) (hi : q_iv kind i) (h28 : kind = 0 → I 53 28 = nI (W + 1) ∧ W < 9) (h29 : kind = 1 → I 53 29 = nI R ∧ R < 6) (v : Int32) : f_X12_lay n I J T (q_kc kind) (nI i) v = some (am_u I (q_lc kind W R i).1 (q_lc kind W R i).2 v) := by
  obtain ⟨i3, i2⟩ := hi
  have k114 : ¬ (119 : Int32) = 114 := by decide
  have k99 : ¬ (119 : Int32) = 99 := by decide
  have k1 : ¬ (114 : Int32) = 119 := by decide
  have k2 : ¬ (114 : Int32) = 99 := by decide
  have k3 : ¬ (99 : Int32) = 119 := by decide
  have k4 : ¬ (99 : Int32) = 114 := by decide
  unfold f_X12_lay f_X12_lay_20 f_X12_lay_41 f_X12_lay_61
  rcases (show kind = 0 ∨ kind = 1 ∨ kind = 2 by omega) with rfl | rfl | rfl
  · obtain ⟨e28, hW⟩ := h28 rfl
    have hix : ok_ix (nI (W + 1)) 10 := q_ix (by omega) (by omega)
    have hcl : (nI (W + 1)).toNatClampNeg = W + 1 := q_cl (by omega)
    rw [show q_kc 0 = 119 from rfl, if_pos rfl, e28]
    rcases (show i = 0 ∨ i = 1 by have := i2 rfl; omega) with rfl | rfl
    · rw [if_pos nI_0, if_pos hix, if_pos rfl, if_neg (show ¬ nI 0 = 1 by decide +kernel), if_neg k114, if_neg k99, hcl]
      rfl
    · rw [if_neg (show ¬ nI 1 = 0 by decide +kernel), if_pos rfl, if_pos (show nI 1 = 1 from rfl), if_pos hix, if_neg k114, if_neg k99, hcl]
      rfl
  · obtain ⟨e29, hR⟩ := h29 rfl
    have e3 : (3 : Int32) * nI R + nI i = nI (3 * R + i) := by rw [show (3 : Int32) * nI R = nI (3 * R) from pk_mul 3 R, nI_add]
    have hix : ok_ix (nI (3 * R + i)) 18 := q_ix (by omega) (by omega)
    have hcl : (nI (3 * R + i)).toNatClampNeg = 3 * R + i := q_cl (by omega)
    rw [show q_kc 1 = 114 from rfl, if_neg k1, if_neg k1, if_pos rfl, e29, e3, if_pos hix, hcl, if_neg k2]
    rfl
  · have hix : ok_ix (nI i) 3 := q_ix (by omega) (by omega)
    have hcl : (nI i).toNatClampNeg = i := q_cl (by omega)
    rw [show q_kc 2 = 99 from rfl, if_neg k3, if_neg k3, if_neg k4, if_pos rfl, if_pos hix, hcl]
    rfl
theorem m_least {I : Nat → Nat → Int32} {kind i : Nat} (hk : kind < 3) (hi : q_iv kind i) : f_X12_leastOf n I J T (q_kc kind) (nI i) = some (nI (q_lea kind i)) := by
  obtain ⟨i3, i2⟩ := hi
  unfold f_X12_leastOf
  rcases (show kind = 0 ∨ kind = 1 ∨ kind = 2 by omega) with rfl | rfl | rfl
  · rcases (show i = 0 ∨ i = 1 by have := i2 rfl; omega) with rfl | rfl <;> rfl
  · rcases (show i = 0 ∨ i = 1 ∨ i = 2 by omega) with rfl | rfl | rfl <;> rfl
  · rcases (show i = 0 ∨ i = 1 ∨ i = 2 by omega) with rfl | rfl | rfl <;> rfl
theorem m_most {I : Nat → Nat → Int32} {kind i W : Nat} (hk : kind < 3) (hi : q_iv kind i) (h28 : kind = 0 → I 53 28 = nI (W + 1)) : f_X12_mostOf n I J T (q_kc kind) (nI i) = some (nI (q_mos kind W i)) := by
  obtain ⟨i3, i2⟩ := hi
  unfold f_X12_mostOf
  rcases (show kind = 0 ∨ kind = 1 ∨ kind = 2 by omega) with rfl | rfl | rfl
  · rcases (show i = 0 ∨ i = 1 by have := i2 rfl; omega) with rfl | rfl
    · rw [show q_kc 0 = 119 from rfl, if_pos rfl, if_pos nI_0, h28 rfl, show (1 : Int32) = nI 1 from rfl, pk_sub (by omega), Nat.add_sub_cancel]
      rfl
    · rfl
  · rcases (show i = 0 ∨ i = 1 ∨ i = 2 by omega) with rfl | rfl | rfl <;> rfl
  · rcases (show i = 0 ∨ i = 1 ∨ i = 2 by omega) with rfl | rfl | rfl <;> rfl
theorem q_lc_ne {kind W R i j : Nat} (hk : kind < 3) (hi : q_iv kind i) (hj : q_iv kind j) (hne : i ≠ j) : ¬ ((q_lc kind W R j).1 = (q_lc kind W R i).1 ∧ (q_lc kind W R j).2 = (q_lc kind W R i).2) := by
  unfold q_lc
  obtain ⟨i3, i2⟩ := hi
  obtain ⟨j3, j2⟩ := hj
  rcases (show kind = 0 ∨ kind = 1 ∨ kind = 2 by omega) with rfl | rfl | rfl
  · have a := i2 rfl
    have b := j2 rfl
    rcases (show (i = 0 ∧ j = 1) ∨ (i = 1 ∧ j = 0) by omega) with ⟨rfl, rfl⟩ | ⟨rfl, rfl⟩ <;> simp
  · simp
    omega
  · simp
    omega
theorem q_lc_x {kind W R i : Nat} (hk : kind < 3) : 62 ≤ (q_lc kind W R i).1 ∧ (q_lc kind W R i).1 ≤ 65 := by
  unfold q_lc
  rcases (show kind = 0 ∨ kind = 1 ∨ kind = 2 by omega) with rfl | rfl | rfl
  · rw [if_pos rfl]
    by_cases h : i = 0
    · rw [if_pos h]; exact ⟨by show 62 ≤ 62; omega, by show 62 ≤ 65; omega⟩
    · rw [if_neg h]; exact ⟨by show 62 ≤ 63; omega, by show 63 ≤ 65; omega⟩
  · exact ⟨by show 62 ≤ 64; omega, by show 64 ≤ 65; omega⟩
  · exact ⟨by show 62 ≤ 65; omega, by show 65 ≤ 65; omega⟩
end QW
