/-! ===== the steps of a rule, reckoned over a stack ===== -/
def q_opr (p : Nat) : Bool := decide (p = 42) || (decide (p = 43) || (decide (p = 45) || (decide (p = 47) || (decide (p = 60) || (decide (p = 61) || (decide (p = 62) || (decide (p = 38) || decide (p = 124))))))))
def q_pr2 (p : Nat) (x y : Int32) : Int32 := if p = 38 then (if x = 1 then (if y = 1 then 1 else 0) else 0) else if p = 124 then (if x = 1 then 1 else if y = 1 then 1 else 0) else q_op p x y
def q_s1 (E : Nat → Int32) (s : Int32) (st : List Int32) : List Int32 :=
  if s < 10000 then s :: st
  else if s = 10033 then (1 - st.headD 0) :: st.tail
  else if q_ltr (s - 10000).toNatClampNeg = true then E (s - 10000).toNatClampNeg :: st
  else q_pr2 (s - 10000).toNatClampNeg (st.tail.headD 0) (st.headD 0) :: st.tail.tail
def q_mst (E : Nat → Int32) (l : List Int32) (st : List Int32) : List Int32 := l.foldl (fun a s => q_s1 E s a) st
def q_sp (s : Int32) : Prop := (∃ v, v < 10000 ∧ s = nI v) ∨ s = 10033 ∨ (∃ p, q_ltr p = true ∧ s = 10000 + nI p) ∨ ∃ p, q_opr p = true ∧ s = 10000 + nI p
theorem q_mst_app (E : Nat → Int32) (l m st : List Int32) : q_mst E (l ++ m) st = q_mst E m (q_mst E l st) := List.foldl_append
theorem q_ltr_lt {p : Nat} (h : q_ltr p = true) : p < 256 ∧ p ≠ 33 ∧ p ≠ 59 ∧ p ≠ 63 := by
  unfold q_ltr at h
  simp only [Bool.or_eq_true, decide_eq_true_eq] at h
  omega
theorem q_opr_lt {p : Nat} (h : q_opr p = true) : p < 256 ∧ p ≠ 33 ∧ p ≠ 59 ∧ p ≠ 63 ∧ ¬ q_ltr p = true := by
  unfold q_opr at h
  simp only [Bool.or_eq_true, decide_eq_true_eq] at h
  refine ⟨by omega, by omega, by omega, by omega, fun z => ?_⟩
  unfold q_ltr at z
  simp only [Bool.or_eq_true, decide_eq_true_eq] at z
  omega
theorem q_s1_n {E : Nat → Int32} {v : Nat} {st : List Int32} (h : v < 10000) : q_s1 E (nI v) st = nI v :: st := by
  unfold q_s1
  rw [if_pos (show nI v < (10000 : Int32) from nI_lt (b := 10000) h (by omega))]
theorem q_s1_p {p : Nat} (hp : p < 256) : (10000 : Int32) + nI p = nI (10000 + p) ∧ ¬ ((10000 : Int32) + nI p < 10000) ∧ ((10000 : Int32) + nI p - 10000).toNatClampNeg = p := by
  have e : (10000 : Int32) + nI p = nI (10000 + p) := by rw [show (10000 : Int32) = nI 10000 from rfl, nI_add]
  refine ⟨e, ?_, ?_⟩
  · rw [e]
    exact nI_nlt (a := 10000 + p) (b := 10000) (by omega) (by omega)
  · rw [e, show (10000 : Int32) = nI 10000 from rfl, pk_sub (by omega), show 10000 + p - 10000 = p by omega]
    exact q_cl (by omega)
theorem q_s1_l {E : Nat → Int32} {p : Nat} {st : List Int32} (h : q_ltr p = true) : q_s1 E (10000 + nI p) st = E p :: st := by
  obtain ⟨h1, h2, -, -⟩ := q_ltr_lt h
  obtain ⟨e1, e2, e3⟩ := q_s1_p h1
  unfold q_s1
  rw [if_neg e2, if_neg (fun z => by
    rw [e1] at z
    have := (nI_eq (a := 10000 + p) (b := 10033) (by omega) (by omega)).mp z
    omega), e3, if_pos h]
theorem q_s1_o {E : Nat → Int32} {p : Nat} {x y : Int32} {st : List Int32} (h : q_opr p = true) : q_s1 E (10000 + nI p) (y :: x :: st) = q_pr2 p x y :: st := by
  obtain ⟨h1, h2, -, -, h5⟩ := q_opr_lt h
  obtain ⟨e1, e2, e3⟩ := q_s1_p h1
  unfold q_s1
  rw [if_neg e2, if_neg (fun z => by
    rw [e1] at z
    have := (nI_eq (a := 10000 + p) (b := 10033) (by omega) (by omega)).mp z
    omega), e3, if_neg h5]
  rfl
theorem q_s1_x {E : Nat → Int32} {x : Int32} {st : List Int32} : q_s1 E 10033 (x :: st) = (1 - x) :: st := rfl
/-- steps that leave the value on the stack -/
def q_ck (P : Int32 → Prop) (x : q_Rs) : Prop := ∀ r, x = .inr r → (∀ s, s ∈ r.2.1 → q_sp s) ∧ (∀ E st, q_mst E r.2.1 st = r.2.2 E :: st) ∧ ∀ E, P (r.2.2 E)
theorem q_ck.b {P Q : Int32 → Prop} {x : q_Rs} {f : Nat × List Int32 × q_Vl → q_Rs} (h : q_ck P x) (hf : ∀ r, q_ck P (.inr r) → q_ck Q (f r)) : q_ck Q (q_rb x f) := by
  cases x with
  | inl e => exact fun r z => (by cases z)
  | inr r => exact hf r (fun r' z => by cases z; exact h r rfl)
theorem q_xp_ck {P : Int32 → Prop} {t : q_Tx} {x : Nat} {r : Nat × List Int32 × q_Vl} (h : q_ck P (.inr r)) : q_ck P (q_xp t x r) := by
  unfold q_xp
  by_cases c : q_pk t (q_sk t r.1) = x
  · rw [if_pos c]
    exact fun r' z => (by cases z; exact h r rfl)
  · rw [if_neg c]
    exact fun r' z => (by cases z)
theorem q_cat_ck {P Q : Int32 → Prop} {p : Nat} {a : Nat} {r z : Nat × List Int32 × q_Vl} (hp : q_opr p = true) (hPQ : ∀ x y, P x → P y → q_pr2 p x y = q_op p x y ∧ Q (q_op p x y)) (hr : q_ck P (.inr r)) (hz : q_ck P (.inr z)) : q_ck Q (.inr (a, r.2.1 ++ (z.2.1 ++ [10000 + nI p]), fun E => q_op p (r.2.2 E) (z.2.2 E))) := by
  intro r' e
  cases e
  obtain ⟨r1, r2, r3⟩ := hr r rfl
  obtain ⟨z1, z2, z3⟩ := hz z rfl
  refine ⟨fun s hs => ?_, fun E st => ?_, fun E => (hPQ _ _ (r3 E) (z3 E)).2⟩
  · rcases List.mem_append.mp hs with h | h
    · exact r1 s h
    · rcases List.mem_append.mp h with h | h
      · exact z1 s h
      · rw [List.mem_singleton.mp h]
        exact Or.inr (Or.inr (Or.inr ⟨p, hp, rfl⟩))
  · show q_mst E (r.2.1 ++ (z.2.1 ++ [10000 + nI p])) st = _
    rw [q_mst_app, r2, q_mst_app, z2]
    show q_s1 E (10000 + nI p) (z.2.2 E :: r.2.2 E :: st) = _
    rw [q_s1_o hp, (hPQ _ _ (r3 E) (z3 E)).1]
theorem q_bl_ck {P : Int32 → Prop} {t : q_Tx} {op : Nat → Bool} {X : Nat → q_Rs} (hop : ∀ p, op p = true → q_opr p = true ∧ ∀ x y, P x → P y → q_pr2 p x y = q_op p x y ∧ P (q_op p x y)) (hX : ∀ b, q_ck P (X b)) : ∀ (m : Nat) (r : Nat × List Int32 × q_Vl), q_ck P (.inr r) → q_ck P (q_bl t op X m r) := by
  intro m
  induction m with
  | zero => intro r h; exact h
  | succ m ih =>
    intro r h
    unfold q_bl
    by_cases c : op (q_pk t (q_sk t r.1)) = true
    · obtain ⟨o1, o2⟩ := hop _ c
      rw [if_pos c]
      exact (hX _).b (fun z hz => ih _ (q_cat_ck o1 o2 h hz))
    · rw [if_neg c]
      exact fun r' z => (by cases z; exact h r rfl)
theorem q_num4 {t : q_Tx} {a : Nat} (ha : a ≤ t.1) : (q_dl t 4 a 0).2 < 10000 := by
  have := (q_dl_le (t := t) 4 a 0 ha).2.2
  omega
theorem q_pr2_s {p : Nat} (h : q_oT p = true ∨ q_oS p = true ∨ q_oC p = true) (x y : Int32) : q_pr2 p x y = q_op p x y ∧ q_opr p = true := by
  unfold q_oT q_oS q_oC at h
  simp only [Bool.or_eq_true, decide_eq_true_eq] at h
  unfold q_pr2 q_opr
  simp only [Bool.or_eq_true, decide_eq_true_eq]
  rw [if_neg (by omega), if_neg (by omega)]
  exact ⟨rfl, by omega⟩
