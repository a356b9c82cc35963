/-! ===== a rule's worth, the class ===== -/
def q_at (I : Nat → Nat → Int32) (u i : Nat) (s : List Int32) : Prop := ∀ j, j < s.length → I (21 + u) (i + j) = s.getD j 0
theorem q_at_app {I : Nat → Nat → Int32} {u i : Nat} {a b : List Int32} (h : q_at I u i (a ++ b)) : q_at I u i a ∧ q_at I u (i + a.length) b := by
  refine ⟨fun j hj => ?_, fun j hj => ?_⟩
  · rw [h j (by rw [List.length_append]; omega), List.getD_eq_getElem?_getD, List.getD_eq_getElem?_getD, List.getElem?_append_left hj]
  · rw [Nat.add_assoc, h (a.length + j) (by rw [List.length_append]; omega), List.getD_eq_getElem?_getD, List.getD_eq_getElem?_getD, List.getElem?_append_right (by omega), Nat.add_sub_cancel_left]
theorem q_at_cons {I : Nat → Nat → Int32} {u i : Nat} {x : Int32} {b : List Int32} (h : q_at I u i (x :: b)) : I (21 + u) i = x ∧ q_at I u (i + 1) b := by
  refine ⟨h 0 (by show 0 < b.length + 1; omega), fun j hj => ?_⟩
  rw [Nat.add_assoc, Nat.add_comm 1 j]
  exact h (j + 1) (by show j + 1 < b.length + 1; omega)
theorem q_at.of {I I' : Nat → Nat → Int32} {u i : Nat} {s : List Int32} (hu : u < 4) (h : q_at I u i s) (e : q_fst I I') : q_at I' u i s := fun j hj => by rw [e _ _ (by omega) (by omega)]; exact h j hj
theorem q_s1_len (E : Nat → Int32) (s : Int32) (st : List Int32) : (q_s1 E s st).length ≤ st.length + 1 := by
  unfold q_s1
  by_cases h1 : s < 10000
  · rw [if_pos h1]; exact Nat.le_refl _
  · rw [if_neg h1]
    by_cases h2 : s = 10033
    · rw [if_pos h2, List.length_cons, List.length_tail]; omega
    · rw [if_neg h2]
      by_cases h3 : q_ltr (s - 10000).toNatClampNeg = true
      · rw [if_pos h3]; exact Nat.le_refl _
      · rw [if_neg h3, List.length_cons, List.length_tail, List.length_tail]; omega
theorem q_sp_ne {s : Int32} (h : q_sp s) : s ≠ 10059 ∧ s ≠ 10063 := by
  rcases h with ⟨v, hv, rfl⟩ | rfl | ⟨p, hp, rfl⟩ | ⟨p, hp, rfl⟩
  · exact ⟨fun z => by have := (nI_eq (a := v) (b := 10059) (by omega) (by omega)).mp z; omega, fun z => by have := (nI_eq (a := v) (b := 10063) (by omega) (by omega)).mp z; omega⟩
  · exact ⟨by decide, by decide⟩
  · obtain ⟨h1, -, h3, h4⟩ := q_ltr_lt hp
    rw [(q_s1_p h1).1]
    exact ⟨fun z => by have := (nI_eq (a := 10000 + p) (b := 10059) (by omega) (by omega)).mp z; omega, fun z => by have := (nI_eq (a := 10000 + p) (b := 10063) (by omega) (by omega)).mp z; omega⟩
  · obtain ⟨h1, -, h3, h4, -⟩ := q_opr_lt hp
    rw [(q_s1_p h1).1]
    exact ⟨fun z => by have := (nI_eq (a := 10000 + p) (b := 10059) (by omega) (by omega)).mp z; omega, fun z => by have := (nI_eq (a := 10000 + p) (b := 10063) (by omega) (by omega)).mp z; omega⟩
section QW
variable {n : Nat} {J : Nat → Nat → Int64} {T : Nat} {D : q_Rd}
theorem x_w30 {I : Nat → Nat → Int32} {k u i N : Nat} {x3 x4 : Int32} (hu : u < 4) (hN : N ≤ 160) (h25 : I 25 u = nI N) (hi : i < N) : f_X5_worth_30 n (k + 1) I J T (nI u) x3 x4 u (nI i) = if I (21 + u) i = 10059 then f_X5_worth_106 n I J T else if I (21 + u) i = 10063 then (f_X5_pop n I J T).bind fun w12 => if w12.1 = 0 then (f_X5_clauseEnd n w12.2 J T (nI u) (nI i)).bind fun w14 => f_X5_worth_30 n k w12.2 J T (nI u) x3 x4 u (w14 + 1) else f_X5_worth_30 n k w12.2 J T (nI u) x3 x4 u (nI i + 1) else (f_X5_reckon n I J T (I (21 + u) i) x3 x4).bind fun w11 => f_X5_worth_30 n k w11 J T (nI u) x3 x4 u (nI i + 1) := by
  have hix : ok_ix (nI u) 4 := q_ix (by omega) (by omega)
  have hcl : (nI u).toNatClampNeg = u := q_cl (by omega)
  have hix2 : ok_ix (nI i) 160 := q_ix (by omega) (by omega)
  have hcl2 : (nI i).toNatClampNeg = i := q_cl (by omega)
  rw [f_X5_worth_30]
  simp only [if_pos hix, hcl, h25, if_neg (show ¬ nI N ≤ nI i from nI_ge hi (by omega)), if_pos hu, if_pos hix2, hcl2]
  rfl
theorem x_w30_n {I : Nat → Nat → Int32} {k u i N : Nat} {x3 x4 : Int32} (hu : u < 4) (hN : N ≤ 160) (h25 : I 25 u = nI N) (hi : N ≤ i) (hi2 : i ≤ 160) : f_X5_worth_30 n (k + 1) I J T (nI u) x3 x4 u (nI i) = f_X5_worth_106 n I J T := by
  have hix : ok_ix (nI u) 4 := q_ix (by omega) (by omega)
  have hcl : (nI u).toNatClampNeg = u := q_cl (by omega)
  rw [f_X5_worth_30]
  simp only [if_pos hix, hcl, h25, if_pos (show nI N ≤ nI i from nI_le hi (by omega))]
theorem x_106 {I : Nat → Nat → Int32} {st : List Int32} (h : q_St I st) : ∃ I', f_X5_worth_106 n I J T = some (am_max 0 (am_min 1000 (st.headD 0)), I') ∧ q_fst I I' := by
  obtain ⟨I', e1, e2, e3⟩ := x_pop (n := n) (J := J) (T := T) h
  unfold f_X5_worth_106
  rw [e1, Option.bind_some]
  exact ⟨I', rfl, e2⟩
theorem x_end {I : Nat → Nat → Int32} {u N : Nat} (hu : u < 4) (hN : N ≤ 160) (h25 : I 25 u = nI N) : ∀ (l : List Int32) (k i : Nat), (∀ x, x ∈ l → x ≠ 10059) → q_at I u i (l ++ [10059]) → i + l.length < N → l.length < k → f_X5_clauseEnd_2 n k I J T (nI u) (nI i) = some (nI (i + l.length)) := by
  intro l
  have hix : ok_ix (nI u) 4 := q_ix (by omega) (by omega)
  have hcl : (nI u).toNatClampNeg = u := q_cl (by omega)
  induction l with
  | nil =>
    intro k i _ h1 h2 h3
    have h2' : i < N := h2
    obtain ⟨k', rfl⟩ : ∃ z, k = z + 1 := ⟨k - 1, by omega⟩
    have hx : I (21 + u) i = 10059 := (q_at_cons h1).1
    have hix2 : ok_ix (nI i) 160 := q_ix (by omega) (by omega)
    have hcl2 : (nI i).toNatClampNeg = i := q_cl (by omega)
    rw [f_X5_clauseEnd_2]
    simp only [if_pos hix, hcl, h25, if_neg (show ¬ nI N ≤ nI i from nI_ge h2' (by omega)), if_pos hu, if_pos hix2, hcl2, if_pos hx]
    rfl
  | cons x l ih =>
    intro k i hx h1 h2 h3
    have h2' : i + (l.length + 1) < N := h2
    have h3' : l.length + 1 < k := h3
    obtain ⟨k', rfl⟩ : ∃ z, k = z + 1 := ⟨k - 1, by omega⟩
    obtain ⟨a1, a2⟩ := q_at_cons h1
    have hne : ¬ I (21 + u) i = 10059 := by rw [a1]; exact hx x List.mem_cons_self
    have hix2 : ok_ix (nI i) 160 := q_ix (by omega) (by omega)
    have hcl2 : (nI i).toNatClampNeg = i := q_cl (by omega)
    rw [f_X5_clauseEnd_2]
    simp only [if_pos hix, hcl, h25, if_neg (show ¬ nI N ≤ nI i from nI_ge (by omega) (by omega)), if_pos hu, if_pos hix2, hcl2, if_neg hne]
    rw [nI_1, ih k' (i + 1) (fun y hy => hx y (List.mem_cons_of_mem _ hy)) a2 (by omega) (by omega)]
    rw [show i + 1 + l.length = i + (x :: l).length by show i + 1 + l.length = i + (l.length + 1); omega]
theorem x_run (hn : 300 ≤ n) (hD : q_ok D) {u N r m : Nat} (hu : u < 4) (hN : N ≤ 160) (hr : r < q_R D) : ∀ (l : List Int32) (k i : Nat) (I : Nat → Nat → Int32) (st : List Int32), (∀ x, x ∈ l → q_sp x) → q_at I u i l → i + l.length ≤ N → st.length + l.length ≤ 160 → I 25 u = nI N → q_RX I D → q_St I st → ∃ I', f_X5_worth_30 n (k + l.length) I J T (nI u) (nI r) (nI m) u (nI i) = f_X5_worth_30 n k I' J T (nI u) (nI r) (nI m) u (nI (i + l.length)) ∧ q_fst I I' ∧ q_St I' (q_mst (q_Er D r m) l st) := by
  intro l
  induction l with
  | nil => intro k i I st _ _ _ _ _ _ h; exact ⟨I, rfl, q_fst.r I, h⟩
  | cons x l ih =>
    intro k i I st hx h1 h2 h3 h25 hX h
    have h2' : i + (l.length + 1) ≤ N := h2
    have h3' : st.length + (l.length + 1) ≤ 160 := h3
    obtain ⟨a1, a2⟩ := q_at_cons h1
    have hsp := hx x List.mem_cons_self
    obtain ⟨n1, n2⟩ := q_sp_ne hsp
    obtain ⟨I1, e1, e2, e3⟩ := x_reckon (n := n) (J := J) (T := T) (m := m) hn hD hX hr h (by omega) hsp
    have hlen := q_s1_len (q_Er D r m) x st
    obtain ⟨I2, f1, f2, f3⟩ := ih k (i + 1) I1 (q_s1 (q_Er D r m) x st) (fun y hy => hx y (List.mem_cons_of_mem _ hy)) (a2.of hu e2) (by omega) (by omega) (by rw [e2 25 u (by omega) (by omega)]; exact h25) (hX.of3 (fun a k z1 z2 => e2 a k (by omega) (by omega))) e3
    refine ⟨I2, ?_, e2.t f2, f3⟩
    show f_X5_worth_30 n (k + l.length + 1) I J T (nI u) (nI r) (nI m) u (nI i) = _
    rw [x_w30 hu hN h25 (show i < N by omega), a1, if_neg n1, if_neg n2, e1, Option.bind_some, nI_1, f1]
    rw [show i + 1 + l.length = i + (x :: l).length by show i + 1 + l.length = i + (l.length + 1); omega]
end QW
