/-! ===== coaches ===== -/
def q_csm (D : q_Rd) (c : Nat → Nat) : Nat → Nat
  | 0 => 0
  | j + 1 => q_csm D c j + q_cost D (q_cst c j (q_R D))
def q_lfc (D : q_Rd) (c : Nat → Nat) (u : Nat) (st : q_Best) : q_Best := q_take st (nI (q_dgt c (q_R D))) (nI (q_csm D c u))
theorem q_gl_id {α : Type} {b : Nat → Bool} {F : Nat → α → α} (h : ∀ j st, b j = true → F j st = st) : ∀ (g r : Nat) (st : α), q_gl b F g r st = st := by
  intro g
  induction g with
  | zero => intro r st; rfl
  | succ g ih =>
    intro r st
    unfold q_gl
    rw [ih]
    by_cases hb : b r = true
    · rw [if_pos hb]; exact h r st hb
    · rw [if_neg hb]
theorem q_gl_some {b : Nat → Bool} {F : Nat → q_Best → q_Best} : ∀ (g r : Nat) (st : q_Best), (∀ i st, r ≤ i → i < r + g → b i = true → F i st ≠ none) → (st ≠ none ∨ ∃ i, r ≤ i ∧ i < r + g ∧ b i = true) → q_gl b F g r st ≠ none := by
  intro g
  induction g with
  | zero =>
    intro r st _ h
    rcases h with h | ⟨i, h1, h2, -⟩
    · exact h
    · omega
  | succ g ih =>
    intro r st hF h
    unfold q_gl
    refine ih (r + 1) _ (fun i st a c => hF i st (by omega) (by omega)) ?_
    by_cases hb : b r = true
    · rw [if_pos hb]
      exact Or.inl (hF r st (Nat.le_refl _) (by omega) hb)
    · rw [if_neg hb]
      rcases h with h | ⟨i, h1, h2, h3⟩
      · exact Or.inl h
      · refine Or.inr ⟨i, ?_, by omega, h3⟩
        by_cases e : i = r
        · subst e; exact absurd h3 hb
        · omega
theorem q_take_some (st : q_Best) (d v : Int32) : q_take st d v ≠ none := by
  unfold q_take
  cases st with
  | none => exact fun z => by cases z
  | some b =>
    simp only
    split <;> exact fun z => by cases z
theorem q_en_none {α : Type} {D : q_Rd} {leaf : (Nat → Nat) → Nat → α → α} : ∀ (f r : Nat) (c : Nat → Nat) (u : Nat) (st : α), (∃ i, r ≤ i ∧ i < r + f ∧ q_cs D < q_se D i) → q_en D leaf f r c u st = st := by
  intro f
  induction f with
  | zero => intro r c u st ⟨i, h1, h2, h3⟩; omega
  | succ f ih =>
    intro r c u st ⟨i, h1, h2, h3⟩
    unfold q_en
    refine q_gl_id (fun j st hb => ?_) _ _ _
    by_cases e : i = r
    · subst e
      unfold q_room at hb
      rw [decide_eq_true_eq] at hb
      omega
    · exact ih _ _ _ _ ⟨i, by omega, by omega, h3⟩
theorem q_sts_0 (D : q_Rd) : ∀ i, q_sts D 0 i = 0 := by
  intro i
  induction i with
  | zero => rfl
  | succ i ih =>
    unfold q_sts
    rw [ih, Nat.zero_testBit, if_neg (by decide)]
theorem q_cst_0 {c : Nat → Nat} {u : Nat} : ∀ r, (∀ i, i < r → c i < u) → q_cst c u r = 0 := by
  intro r
  induction r with
  | zero => intro _; rfl
  | succ r ih =>
    intro h
    unfold q_cst
    rw [if_neg (by have := h r (by omega); omega)]
    exact ih (fun i hi => h i (by omega))
theorem q_en_some {D : q_Rd} (hfit : ∀ i, i < q_R D → q_se D i ≤ q_cs D) : ∀ (f r : Nat) (c : Nat → Nat) (u : Nat) (st : q_Best), r + f = q_R D → (∀ i, i < r → c i < u) → q_en D (q_lfc D) f r c u st ≠ none := by
  intro f
  induction f with
  | zero => intro r c u st _ _; exact q_take_some _ _ _
  | succ f ih =>
    intro r c u st h1 h2
    unfold q_en
    refine q_gl_some _ _ _ (fun j st _ _ _ => ih _ _ _ _ (by omega) (fun i hi => ?_)) (Or.inr ⟨u, Nat.zero_le _, by omega, ?_⟩)
    · unfold q_tu
      by_cases ei : i = r
      · rw [if_pos ei]; split <;> omega
      · rw [if_neg ei]
        have := h2 i (by omega)
        split <;> omega
    · show q_room D (q_cst c u r) r = true
      unfold q_room
      rw [q_cst_0 r h2, q_sts_0, decide_eq_true_eq]
      have := hfit r (by omega)
      omega
def q_P1 (st : q_Best) (o v _o3 _o4 : Int32) : Prop := q_stc st o v ∧ (st = none → v = -1)
def q_P2 (st : q_Best) (o v _o3 _o4 : Int32) : Prop := q_stc st o v
section QW
variable {n : Nat} {D : q_Rd} {J : Nat → Nat → Int64} {T : Nat}
theorem q_csm_le {D : q_Rd} (hD : q_ok D) (c : Nat → Nat) : ∀ j, q_csm D c j ≤ 7200 * j := by
  intro j
  induction j with
  | zero => exact Nat.le_refl _
  | succ j ih =>
    have := q_cost_le hD (q_cst c j (q_R D))
    unfold q_csm
    omega
theorem x_judge_loop {I : Nat → Nat → Int32} (hn : 300 ≤ n) (hD : q_ok D) (hx : q_RX I D) {c : Nat → Nat} {u : Nat} (hu : u ≤ q_R D) (hc : q_CX I D c (q_R D)) (x2 : Int32) : ∀ (m j : Nat), j ≤ u → u - j < m → f_X6_judge_54 n m I J T (nI u) x2 (nI (q_csm D c j)) (nI j) = if (I 31 8) = (-1) then f_X6_judge_99 n I J T x2 (nI (q_csm D c u)) else if (I 31 9) ≤ nI (q_csm D c u) then some I else f_X6_judge_99 n I J T x2 (nI (q_csm D c u)) := by
  have hR := hD.1.2.1
  have hp := (q_pow2 (q_R D) hR).2
  intro m
  induction m with
  | zero => intro j _ h; omega
  | succ m ih =>
    intro j hj hm
    rw [f_X6_judge_54]
    by_cases e : j = u
    · subst e
      rw [if_pos (Int32.le_refl _)]
    · have hix : ok_ix (nI j) 7 := q_ix (by omega) (by omega)
      have hcl : (nI j).toNatClampNeg = j := q_cl (by omega)
      have hsl := q_cst_lt c j (q_R D)
      rw [if_neg (nI_ge (by omega) (by omega)), if_pos hix, hcl, (hc j (by omega)).1, x_costFor hn hD hx (by omega), Option.bind_some, nI_add, nI_1]
      exact ih (j + 1) (by omega) (by omega)
theorem x_judge_c (hn : 300 ≤ n) (hD : q_ok D) (c : Nat → Nat) (u : Nat) (I : Nat → Nat → Int32) (st : q_Best) (hu : u ≤ q_R D) (hcu : ∀ i, i < q_R D → c i < u) (hx : q_RX I D) (hc : q_CX I D c (q_R D)) (hz : I 31 6 = 0) (hP : q_P1 st (I 31 8) (I 31 9) (I 31 10) (I 31 11)) : ∃ I', f_X6_judge n I J T (nI u) (nI (q_dgt c (q_R D))) = some I' ∧ q_P1 (q_lfc D c u st) (I' 31 8) (I' 31 9) (I' 31 10) (I' 31 11) ∧ ∀ a b, ¬ (a = 31 ∧ 8 ≤ b) → I' a b = I a b := by
  have hR := hD.1.2.1
  have e1 := x_judge_loop (n := n) (J := J) (T := T) hn hD hx hu hc (nI (q_dgt c (q_R D))) n 0 (Nat.zero_le _) (by omega)
  have e1' : f_X6_judge_54 n n I J T (nI u) (nI (q_dgt c (q_R D))) 0 0 = _ := e1
  have hdl := q_dgt_lt (c := c) (q_R D) (fun i hi => by have := hcu i hi; omega)
  have hd := q_dgne hdl hR
  unfold f_X6_judge
  rw [if_pos hz, e1']
  unfold f_X6_judge_99
  have hset : ∀ a b, ¬ (a = 31 ∧ 8 ≤ b) → am_u (am_u I 31 8 (nI (q_dgt c (q_R D)))) 31 9 (nI (q_csm D c u)) a b = I a b := fun a b h => by
    unfold am_u
    rw [if_neg (by omega), if_neg (by omega)]
  have h8 : am_u (am_u I 31 8 (nI (q_dgt c (q_R D)))) 31 9 (nI (q_csm D c u)) 31 8 = nI (q_dgt c (q_R D)) := by simp [am_u]
  have h9 : am_u (am_u I 31 8 (nI (q_dgt c (q_R D)))) 31 9 (nI (q_csm D c u)) 31 9 = nI (q_csm D c u) := by simp [am_u]
  unfold q_lfc
  have hne := q_take_some st (nI (q_dgt c (q_R D))) (nI (q_csm D c u))
  cases st with
  | none =>
    have h' : I 31 8 = -1 := hP.1
    rw [if_pos h']
    exact ⟨_, rfl, ⟨⟨h8, h9, hd⟩, fun z => absurd z hne⟩, hset⟩
  | some b =>
    obtain ⟨⟨a1, a2, a3⟩, -⟩ := hP
    rw [if_neg (by rw [a1]; exact a3), a2]
    unfold q_take at hne ⊢
    by_cases hlt : nI (q_csm D c u) < b.2
    · have hle : ¬ b.2 ≤ nI (q_csm D c u) := Int32.not_le.mpr hlt
      simp only [if_neg hle, if_pos hlt]
      exact ⟨_, rfl, ⟨⟨h8, h9, hd⟩, fun z => by cases z⟩, hset⟩
    · have hle : b.2 ≤ nI (q_csm D c u) := Int32.not_lt.mp hlt
      simp only [if_pos hle, if_neg hlt]
      exact ⟨_, rfl, ⟨⟨a1, a2, a3⟩, fun z => by cases z⟩, fun _ _ _ => rfl⟩
theorem m_digits {I : Nat → Nat → Int32} (hD : q_ok D) (hx : q_RM I D) {c : Nat → Nat} (hc : ∀ i, i < q_R D → I 69 i = nI (c i)) : ∀ (m i : Nat), i ≤ q_R D → q_R D - i < m → f_X12_digitsNow_4 n m I J T (nI (q_dgt c i)) (nI i) = some (nI (q_dgt c (q_R D))) := by
  have hR := hD.1.2.1
  intro m
  induction m with
  | zero => intro i _ h; omega
  | succ m ih =>
    intro i hi hm
    rw [f_X12_digitsNow_4, hx.1.2.1]
    by_cases e : i = q_R D
    · subst e
      rw [if_pos (Int32.le_refl _)]
    · have hix : ok_ix (nI i) 6 := q_ix (by omega) (by omega)
      have hcl : (nI i).toNatClampNeg = i := q_cl (by omega)
      have ed : 10 * nI (q_dgt c i) + nI (c i) = nI (q_dgt c (i + 1)) := by
        show _ = nI (q_dgt c i * 10 + c i)
        rw [show (10 : Int32) * nI (q_dgt c i) = nI (10 * q_dgt c i) from pk_mul 10 _, nI_add, Nat.mul_comm]
      rw [if_neg (nI_ge (by omega) (by omega)), if_pos hix, hcl, hc i (by omega), ed, nI_1]
      exact ih (i + 1) (by omega) (by omega)
theorem m_judge_loop {I : Nat → Nat → Int32} (hn : 300 ≤ n) (hD : q_ok D) (hx : q_RM I D) {c : Nat → Nat} {u : Nat} (hu : u ≤ q_R D) (hc : ∀ j, j < 7 → I 70 j = nI (q_cst c j (q_R D))) : ∀ (m j : Nat), j ≤ u → u - j < m → f_X12_judgeCost_4 n m I J T (nI u) (nI (q_csm D c j)) (nI j) = if (I 53 37) = (-1) then f_X12_judgeCost_45 n I J T (nI (q_csm D c u)) else if nI (q_csm D c u) < (I 53 38) then f_X12_judgeCost_45 n I J T (nI (q_csm D c u)) else some I := by
  have hR := hD.1.2.1
  have hp := (q_pow2 (q_R D) hR).2
  intro m
  induction m with
  | zero => intro j _ h; omega
  | succ m ih =>
    intro j hj hm
    rw [f_X12_judgeCost_4]
    by_cases e : j = u
    · subst e
      rw [if_pos (Int32.le_refl _)]
    · have hix : ok_ix (nI j) 7 := q_ix (by omega) (by omega)
      have hcl : (nI j).toNatClampNeg = j := q_cl (by omega)
      have hsl := q_cst_lt c j (q_R D)
      rw [if_neg (nI_ge (by omega) (by omega)), if_pos hix, hcl, hc j (by omega), m_costOf hn hD hx (by omega), Option.bind_some, nI_add, nI_1]
      exact ih (j + 1) (by omega) (by omega)
theorem m_judge_c (hn : 300 ≤ n) (hD : q_ok D) (c : Nat → Nat) (u : Nat) (I : Nat → Nat → Int32) (st : q_Best) (hu : u ≤ q_R D) (hcu : ∀ i, i < q_R D → c i < u) (hx : q_RM I D) (hc : q_CM I c (q_R D)) (hP : q_P2 st (I 53 37) (I 53 38) (I 53 43) (I 53 44)) : ∃ I', f_X12_judgeCost n I J T (nI u) = some I' ∧ q_P2 (q_lfc D c u st) (I' 53 37) (I' 53 38) (I' 53 43) (I' 53 44) ∧ ∀ a b, ¬ q_jx a b → I' a b = I a b := by
  have hR := hD.1.2.1
  have e1 := m_judge_loop (n := n) (J := J) (T := T) hn hD hx hu hc.1 n 0 (Nat.zero_le _) (by omega)
  have e1' : f_X12_judgeCost n I J T (nI u) = _ := e1
  have hdl := q_dgt_lt (c := c) (q_R D) (fun i hi => by have := hcu i hi; omega)
  have hd := q_dgne hdl hR
  have e2 := m_digits (n := n) (J := J) (T := T) hD hx hc.2 n 0 (Nat.zero_le _) (by omega)
  have e2' : f_X12_digitsNow n I J T = some (nI (q_dgt c (q_R D))) := e2
  have e3 : f_X12_judgeCost_45 n I J T (nI (q_csm D c u)) = some (am_u (am_u I 53 37 (nI (q_dgt c (q_R D)))) 53 38 (nI (q_csm D c u))) := by
    unfold f_X12_judgeCost_45
    rw [e2', Option.bind_some]
  rw [e1', e3]
  have hset : ∀ a b, ¬ q_jx a b → am_u (am_u I 53 37 (nI (q_dgt c (q_R D)))) 53 38 (nI (q_csm D c u)) a b = I a b := fun a b h => by
    unfold q_jx at h
    unfold am_u
    rw [if_neg (by omega), if_neg (by omega)]
  have h8 : am_u (am_u I 53 37 (nI (q_dgt c (q_R D)))) 53 38 (nI (q_csm D c u)) 53 37 = nI (q_dgt c (q_R D)) := by simp [am_u]
  have h9 : am_u (am_u I 53 37 (nI (q_dgt c (q_R D)))) 53 38 (nI (q_csm D c u)) 53 38 = nI (q_csm D c u) := by simp [am_u]
  unfold q_lfc
  cases st with
  | none =>
    have h' : I 53 37 = -1 := hP
    rw [if_pos h']
    exact ⟨_, rfl, ⟨h8, h9, hd⟩, hset⟩
  | some b =>
    obtain ⟨a1, a2, a3⟩ := hP
    rw [if_neg (by rw [a1]; exact a3), a2]
    unfold q_take
    by_cases hlt : nI (q_csm D c u) < b.2
    · simp only [if_pos hlt]
      exact ⟨_, rfl, ⟨h8, h9, hd⟩, hset⟩
    · simp only [if_neg hlt]
      exact ⟨_, rfl, ⟨a1, a2, a3⟩, fun _ _ _ => rfl⟩
end QW
