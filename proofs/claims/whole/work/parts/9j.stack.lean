/-! ===== the class's stack ===== -/
def q_St (I : Nat → Nat → Int32) (st : List Int32) : Prop := I 19 3 = nI st.length ∧ st.length ≤ 160 ∧ ∀ i, i < st.length → I 26 i = st.reverse.getD i 0
def q_fst (I I' : Nat → Nat → Int32) : Prop := ∀ x y, ¬ (x = 19 ∧ y = 3) → x ≠ 26 → I' x y = I x y
theorem q_fst.r (I : Nat → Nat → Int32) : q_fst I I := fun _ _ _ _ => rfl
theorem q_fst.t {I I1 I2 : Nat → Nat → Int32} (h : q_fst I I1) (g : q_fst I1 I2) : q_fst I I2 := fun x y a b => by rw [g x y a b]; exact h x y a b
theorem q_64e (x y : Int32) : x.toInt64 = y.toInt64 ↔ x = y := by
  constructor
  · intro h
    have h2 : x.toInt64.toInt = y.toInt64.toInt := by rw [h]
    rw [Int32.toInt_toInt64, Int32.toInt_toInt64] at h2
    exact Int32.toInt_inj.mp h2
  · intro h
    rw [h]
theorem q_64l (x y : Int32) : x.toInt64 < y.toInt64 ↔ x < y := by
  rw [Int64.lt_iff_toInt_lt, Int32.toInt_toInt64, Int32.toInt_toInt64, Int32.lt_iff_toInt_lt]
section QW
variable {n : Nat} {J : Nat → Nat → Int64} {T : Nat}
theorem x_pop {I : Nat → Nat → Int32} {st : List Int32} (h : q_St I st) : ∃ I', f_X5_pop n I J T = some (st.headD 0, I') ∧ q_fst I I' ∧ q_St I' st.tail := by
  obtain ⟨h1, h2, h3⟩ := h
  unfold f_X5_pop
  rw [h1]
  cases st with
  | nil => exact ⟨I, by rw [if_pos (show nI ([] : List Int32).length = 0 from rfl)]; rfl, q_fst.r I, h1, h2, h3⟩
  | cons x st =>
    have hl : (x :: st).length = st.length + 1 := rfl
    rw [hl] at h1 h2 ⊢
    have hix : ok_ix (nI st.length) 160 := q_ix (by omega) (by omega)
    have hcl : (nI st.length).toNatClampNeg = st.length := q_cl (by omega)
    have em : nI (st.length + 1) - 1 = nI st.length := by rw [show (1 : Int32) = nI 1 from rfl, pk_sub (by omega), Nat.add_sub_cancel]
    have e26 : I 26 st.length = x := by
      rw [h3 st.length (by rw [hl]; omega), List.reverse_cons, List.getD_eq_getElem?_getD, List.getElem?_append_right (by rw [List.length_reverse]; omega), List.length_reverse, Nat.sub_self]
      rfl
    rw [if_neg (nI_ne0 (by omega) (by omega)), em, if_pos hix, hcl, e26]
    refine ⟨_, rfl, fun a b z1 z2 => by unfold am_u; rw [if_neg z1], by simp [am_u], by show st.length ≤ 160; omega, fun i hi => ?_⟩
    have hi' : i < st.length := hi
    unfold am_u
    rw [if_neg (by omega), h3 i (by rw [hl]; omega), List.reverse_cons, List.getD_eq_getElem?_getD, List.getD_eq_getElem?_getD, List.getElem?_append_left (by rw [List.length_reverse]; omega)]
    rfl
theorem x_push {I : Nat → Nat → Int32} {st : List Int32} (h : q_St I st) (hl : st.length < 160) (v : Int32) : ∃ I', f_X5_push n I J T v = some I' ∧ q_fst I I' ∧ q_St I' (v :: st) := by
  obtain ⟨h1, h2, h3⟩ := h
  have hix : ok_ix (nI st.length) 160 := q_ix (by omega) (by omega)
  have hcl : (nI st.length).toNatClampNeg = st.length := q_cl (by omega)
  unfold f_X5_push
  rw [h1, if_neg (show ¬ (160 : Int32) ≤ nI st.length from nI_ge (b := 160) hl (by omega)), if_pos hix, hcl, nI_1]
  refine ⟨_, rfl, fun a b z1 z2 => by unfold am_u; rw [if_neg z1, if_neg (by omega)], by simp [am_u], by show st.length + 1 ≤ 160; omega, fun i hi => ?_⟩
  have hi' : i < st.length + 1 := hi
  rw [List.reverse_cons, List.getD_eq_getElem?_getD]
  unfold am_u
  rw [if_neg (by omega)]
  by_cases e : i = st.length
  · rw [if_pos ⟨rfl, e⟩, e, List.getElem?_append_right (by rw [List.length_reverse]; omega), List.length_reverse, Nat.sub_self]
    rfl
  · rw [if_neg (fun z => e z.2), h3 i (by omega), List.getElem?_append_left (by rw [List.length_reverse]; omega), List.getD_eq_getElem?_getD]
theorem x_pair {I : Nat → Nat → Int32} {p : Nat} (hp : q_opr p = true) (x y : Int32) : ∃ z, f_X5_pair n I J T (nI p) x.toInt64 y.toInt64 = some z ∧ q_wi z = q_pr2 p x y := by
  have w0 : q_wi 0 = 0 := by decide
  have w1 : q_wi 1 = 1 := by decide
  have e1 : ∀ u : Int32, (lg_cmp u.toInt64 1 = 0) ↔ u = 1 := fun u => (lg_cmp_eq _ _).trans (q_64e u 1)
  have e0 : ∀ u : Int32, (lg_cmp u.toInt64 0 = 0) ↔ u = 0 := fun u => (lg_cmp_eq _ _).trans (q_64z u)
  have ee : (lg_cmp x.toInt64 y.toInt64 = 0) ↔ x = y := (lg_cmp_eq _ _).trans (q_64e x y)
  have el : (0 ≤ lg_cmp x.toInt64 y.toInt64) ↔ ¬ x < y := by
    rw [← q_64l, ← lg_cmp_lt, Int32.le_iff_toInt_le, Int32.lt_iff_toInt_lt]
    omega
  have eg : (lg_cmp x.toInt64 y.toInt64 ≤ 0) ↔ ¬ y < x := by
    rw [← q_64l, ← lg_cmp_gt, Int32.le_iff_toInt_le, Int32.lt_iff_toInt_lt]
    omega
  unfold q_opr at hp
  simp only [Bool.or_eq_true, decide_eq_true_eq] at hp
  unfold f_X5_pair f_X5_pair_208
  rcases hp with rfl | rfl | rfl | rfl | rfl | rfl | rfl | rfl | rfl
  · rw [if_neg (by decide), if_pos (by decide)]
    exact ⟨_, rfl, rfl⟩
  · rw [if_neg (by decide), if_neg (by decide), if_pos (by decide)]
    exact ⟨_, rfl, rfl⟩
  · rw [if_neg (by decide), if_neg (by decide), if_neg (by decide), if_pos (by decide)]
    exact ⟨_, rfl, rfl⟩
  · rw [if_neg (by decide), if_neg (by decide), if_neg (by decide), if_neg (by decide), if_pos (by decide)]
    simp only [e0, q_64z]
    show ∃ z, _ ∧ q_wi z = if y = 0 then 0 else q_wi (x.toInt64 / y.toInt64)
    by_cases c : y = 0
    · rw [if_pos c, if_pos c]; exact ⟨0, rfl, w0⟩
    · rw [if_neg c, if_neg c, if_pos c]; exact ⟨_, rfl, rfl⟩
  · rw [if_neg (by decide), if_neg (by decide), if_neg (by decide), if_neg (by decide), if_neg (by decide), if_pos (by decide)]
    simp only [el]
    show ∃ z, _ ∧ q_wi z = if x < y then 1 else 0
    by_cases c : x < y
    · rw [if_neg (fun z => z c), if_pos c]; exact ⟨1, rfl, w1⟩
    · rw [if_pos c, if_neg c]; exact ⟨0, rfl, w0⟩
  · rw [if_neg (by decide), if_neg (by decide), if_neg (by decide), if_neg (by decide), if_neg (by decide), if_neg (by decide), if_pos (by decide)]
    simp only [ee]
    show ∃ z, _ ∧ q_wi z = if x = y then 1 else 0
    by_cases c : x = y
    · rw [if_pos c, if_pos c]; exact ⟨1, rfl, w1⟩
    · rw [if_neg c, if_neg c]; exact ⟨0, rfl, w0⟩
  · rw [if_neg (by decide), if_neg (by decide), if_neg (by decide), if_neg (by decide), if_neg (by decide), if_neg (by decide), if_neg (by decide), if_pos (by decide)]
    simp only [eg]
    show ∃ z, _ ∧ q_wi z = if y < x then 1 else 0
    by_cases c : y < x
    · rw [if_neg (fun z => z c), if_pos c]; exact ⟨1, rfl, w1⟩
    · rw [if_pos c, if_neg c]; exact ⟨0, rfl, w0⟩
  · rw [if_pos (by decide)]
    simp only [e1]
    show ∃ z, _ ∧ q_wi z = if x = 1 then (if y = 1 then 1 else 0) else 0
    by_cases c : x = 1
    · rw [if_pos c, if_pos c]
      by_cases c2 : y = 1
      · rw [if_pos c2, if_pos c2]; exact ⟨1, rfl, w1⟩
      · rw [if_neg c2, if_neg c2]; exact ⟨0, rfl, w0⟩
    · rw [if_neg c, if_neg c]; exact ⟨0, rfl, w0⟩
  · rw [if_neg (by decide), if_neg (by decide), if_neg (by decide), if_neg (by decide), if_neg (by decide), if_neg (by decide), if_neg (by decide), if_neg (by decide)]
    simp only [e1]
    show ∃ z, _ ∧ q_wi z = if x = 1 then 1 else if y = 1 then 1 else 0
    by_cases c : x = 1
    · rw [if_pos c, if_pos c]; exact ⟨1, rfl, w1⟩
    · rw [if_neg c, if_neg c]
      by_cases c2 : y = 1
      · rw [if_pos c2, if_pos c2]; exact ⟨1, rfl, w1⟩
      · rw [if_neg c2, if_neg c2]; exact ⟨0, rfl, w0⟩
end QW
