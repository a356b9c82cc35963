/-! ===== feed, the loops ===== -/
def q_cnt (x : Int32) : Nat → Nat
  | 0 => 0
  | i + 1 => q_cnt x i + (if q_bt x i = 0 then 0 else 1)
theorem q_cnt_le (x : Int32) : ∀ i, q_cnt x i ≤ i := by
  intro i
  induction i with
  | zero => exact Nat.le_refl _
  | succ i ih =>
    unfold q_cnt
    split <;> omega
def q_one (t : Nat × (Nat → Nat)) (b : Nat) : Nat × (Nat → Nat) := if b = 0 then t else (t.1 + 1, fun k => if k = t.1 then b else t.2 k)
def q_pu (x : Int32) : Nat → Nat × (Nat → Nat) → Nat × (Nat → Nat)
  | 0, t => t
  | i + 1, t => q_pu x i (q_one t (q_bt x i))
theorem q_one_1 (t : Nat × (Nat → Nat)) (b : Nat) : (q_one t b).1 = t.1 + (if b = 0 then 0 else 1) := by
  unfold q_one
  split <;> rfl
theorem q_pu_1 (x : Int32) : ∀ i t, (q_pu x i t).1 = t.1 + q_cnt x i := by
  intro i
  induction i with
  | zero => intro t; rfl
  | succ i ih =>
    intro t
    show (q_pu x i (q_one t (q_bt x i))).1 = _
    rw [ih, q_one_1]
    show _ = t.1 + (q_cnt x i + _)
    omega
theorem q_pu_ok (x : Int32) : ∀ i t, t.1 + q_cnt x i ≤ 160 → q_tok t → q_tok (q_pu x i t) := by
  intro i
  induction i with
  | zero => intro t _ h; exact h
  | succ i ih =>
    intro t h1 h2
    have h3 : t.1 + (q_cnt x i + (if q_bt x i = 0 then 0 else 1)) ≤ 160 := h1
    refine ih (q_one t (q_bt x i)) (by rw [q_one_1]; omega) ?_
    unfold q_one
    by_cases hb : q_bt x i = 0
    · rw [if_pos hb]; exact h2
    · rw [if_neg hb] at h3 ⊢
      refine ⟨by show t.1 + 1 ≤ 160; omega, fun k hk => ?_⟩
      show 1 ≤ (if k = t.1 then q_bt x i else t.2 k) ∧ (if k = t.1 then q_bt x i else t.2 k) < 256
      have hk' : k < t.1 + 1 := hk
      by_cases e : k = t.1
      · rw [if_pos e]
        have := q_bt_lt x i
        omega
      · rw [if_neg e]
        exact h2.2 k (by omega)
def q_sh (i : Nat) : Int32 := nI (8 * i) + (-8)
theorem q_sh_s (i : Nat) : q_sh (i + 1) = nI (8 * i) := by
  unfold q_sh
  have e : nI (8 * (i + 1)) = nI (8 * i) + nI 8 := by rw [nI_add]; congr 1
  rw [e, Int32.add_assoc]
  have e2 : nI 8 + (-8 : Int32) = 0 := by decide +kernel
  rw [e2, Int32.add_zero]
section QF
variable {n : Nat} {J : Nat → Nat → Int64} {T : Nat}
theorem q_sh0 : q_sh 0 < 0 := by decide +kernel
theorem q_shp (i : Nat) (hi : i < 4) : ¬ q_sh (i + 1) < 0 := by
  rw [q_sh_s]
  exact nI_pos (by omega)
theorem x_signs {I : Nat → Nat → Int32} (x : Int32) : ∀ i, i ≤ 4 → ∀ m c, i < m → f_X10_signsOf_5 n m I J T x (nI c) (q_sh i) = some (nI (c + q_cnt x i)) := by
  intro i
  induction i with
  | zero =>
    intro _ m c hm
    obtain ⟨m, rfl⟩ : ∃ k, m = k + 1 := ⟨m - 1, by omega⟩
    rw [f_X10_signsOf_5, if_pos q_sh0]
    rfl
  | succ i ih =>
    intro hi m c hm
    obtain ⟨m, rfl⟩ : ∃ k, m = k + 1 := ⟨m - 1, by omega⟩
    rw [f_X10_signsOf_5, if_neg (q_shp i (by omega)), q_sh_s, q_ush x i (by omega)]
    have hlt := q_bt_lt x i
    unfold f_X10_signsOf_22
    have e8 : nI (8 * i) + (-8) = q_sh i := rfl
    rw [e8]
    by_cases hb : q_bt x i = 0
    · rw [hb, if_pos nI_0, ih (by omega) m c (by omega)]
      simp [q_cnt, hb]
    · rw [if_neg (nI_ne0 (by omega) (by omega)), nI_1, ih (by omega) m (c + 1) (by omega)]
      congr 2
      simp [q_cnt, hb]
      omega
theorem m_signs {I : Nat → Nat → Int32} (x : Int32) : ∀ i, i ≤ 4 → ∀ m c, i < m → f_X12_bytesIn_5 n m I J T x (nI c) (q_sh i) = some (nI (c + q_cnt x i)) := by
  intro i
  induction i with
  | zero =>
    intro _ m c hm
    obtain ⟨m, rfl⟩ : ∃ k, m = k + 1 := ⟨m - 1, by omega⟩
    rw [f_X12_bytesIn_5, if_pos q_sh0]
    rfl
  | succ i ih =>
    intro hi m c hm
    obtain ⟨m, rfl⟩ : ∃ k, m = k + 1 := ⟨m - 1, by omega⟩
    rw [f_X12_bytesIn_5, if_neg (q_shp i (by omega)), q_sh_s, q_shr x i (by omega)]
    have hlt := q_bt_lt x i
    unfold f_X12_bytesIn_25
    have e8 : nI (8 * i) + (-8) = q_sh i := rfl
    rw [e8]
    by_cases hb : q_bt x i = 0
    · rw [hb, if_pos nI_0, Int32.add_zero, ih (by omega) m c (by omega)]
      simp [q_cnt, hb]
    · rw [if_neg (nI_ne0 (by omega) (by omega)), nI_1, ih (by omega) m (c + 1) (by omega)]
      congr 2
      simp [q_cnt, hb]
      omega
theorem x_put (x : Int32) : ∀ i, i ≤ 4 → ∀ m (I : Nat → Nat → Int32) (t : Nat × (Nat → Nat)), i < m → q_TX I t → t.1 + q_cnt x i ≤ 160 → ∃ I', f_X10_append_3 n m I J T x (q_sh i) = some I' ∧ q_TX I' (q_pu x i t) ∧ ∀ a k, ¬ (a = 1 ∧ k = 1) → a ≠ 2 → I' a k = I a k := by
  intro i
  induction i with
  | zero =>
    intro _ m I t hm h1 h2
    obtain ⟨m, rfl⟩ : ∃ k, m = k + 1 := ⟨m - 1, by omega⟩
    rw [f_X10_append_3, if_pos q_sh0]
    exact ⟨I, rfl, h1, fun _ _ _ _ => rfl⟩
  | succ i ih =>
    intro hi m I t hm h1 h2
    obtain ⟨m, rfl⟩ : ∃ k, m = k + 1 := ⟨m - 1, by omega⟩
    have h3 : t.1 + (q_cnt x i + (if q_bt x i = 0 then 0 else 1)) ≤ 160 := h2
    rw [f_X10_append_3, if_neg (q_shp i (by omega)), q_sh_s, q_ush x i (by omega)]
    have hlt := q_bt_lt x i
    unfold f_X10_append_50
    have e8 : nI (8 * i) + (-8) = q_sh i := rfl
    rw [e8]
    have eu : q_pu x (i + 1) t = q_pu x i (q_one t (q_bt x i)) := rfl
    rw [eu]
    by_cases hb : q_bt x i = 0
    · rw [hb, if_pos nI_0]
      have e1 : q_one t 0 = t := by unfold q_one; rw [if_pos rfl]
      rw [e1]
      rw [if_pos hb] at h3
      exact ih (by omega) m I t (by omega) h1 (by omega)
    · rw [if_neg hb] at h3
      have hix : ok_ix (nI t.1) 160 := q_ix (by omega) (by omega)
      have hcl : (nI t.1).toNatClampNeg = t.1 := q_cl (by omega)
      have e160 : ¬ (160 : Int32) ≤ nI t.1 := nI_ge (b := 160) (by omega) (by omega)
      have hv : ((nI (q_bt x i)).toInt8.toInt32).toInt8.toInt32 = q_by (q_bt x i) := by
        unfold q_by
        rw [Int8.toInt8_toInt32]
      rw [if_neg (nI_ne0 (by omega) (by omega)), h1.1, if_neg e160, hv, nI_1]
      simp only [if_pos hix, hcl]
      have e1 : q_one t (q_bt x i) = (t.1 + 1, fun k => if k = t.1 then q_bt x i else t.2 k) := by unfold q_one; rw [if_neg hb]
      rw [e1]
      obtain ⟨I', f1, f2, f3⟩ := ih (by omega) m (am_u (am_u I 2 t.1 (q_by (q_bt x i))) 1 1 (nI (t.1 + 1))) (t.1 + 1, fun k => if k = t.1 then q_bt x i else t.2 k) (by omega) ⟨by simp [am_u], fun k hk => by
        have hk' : k < t.1 + 1 := hk
        show am_u (am_u I 2 t.1 (q_by (q_bt x i))) 1 1 (nI (t.1 + 1)) 2 k = q_by (if k = t.1 then q_bt x i else t.2 k)
        by_cases e : k = t.1
        · rw [if_pos e, e]; simp [am_u]
        · rw [if_neg e, ← h1.2 k (by omega)]; simp [am_u, e]⟩ (by show t.1 + 1 + q_cnt x i ≤ 160; omega)
      refine ⟨I', f1, f2, fun a k h4 h5 => ?_⟩
      rw [f3 a k h4 h5]
      unfold am_u
      rw [if_neg h4, if_neg (by omega)]
theorem m_put (x : Int32) : ∀ i, i ≤ 4 → ∀ m (I : Nat → Nat → Int32) (t : Nat × (Nat → Nat)), i < m → q_TM I t → t.1 + q_cnt x i ≤ 160 → ∃ I', f_X12_put_3 n m I J T x (q_sh i) = some I' ∧ q_TM I' (q_pu x i t) ∧ ∀ a k, ¬ (a = 53 ∧ k = 6) → a ≠ 54 → I' a k = I a k := by
  intro i
  induction i with
  | zero =>
    intro _ m I t hm h1 h2
    obtain ⟨m, rfl⟩ : ∃ k, m = k + 1 := ⟨m - 1, by omega⟩
    rw [f_X12_put_3, if_pos q_sh0]
    exact ⟨I, rfl, h1, fun _ _ _ _ => rfl⟩
  | succ i ih =>
    intro hi m I t hm h1 h2
    obtain ⟨m, rfl⟩ : ∃ k, m = k + 1 := ⟨m - 1, by omega⟩
    have h3 : t.1 + (q_cnt x i + (if q_bt x i = 0 then 0 else 1)) ≤ 160 := h2
    have hv : ((x >>> (nI (8 * i) &&& 31)).toInt8.toInt32).toInt8.toInt32 = q_by (q_bt x i) := by
      rw [q_by2, q_shr0 x i (by omega)]
    rw [f_X12_put_3, if_neg (q_shp i (by omega)), q_sh_s, q_shr x i (by omega), hv]
    have hlt := q_bt_lt x i
    unfold f_X12_put_43
    have e8 : nI (8 * i) + (-8) = q_sh i := rfl
    rw [e8]
    have eu : q_pu x (i + 1) t = q_pu x i (q_one t (q_bt x i)) := rfl
    rw [eu]
    by_cases hb : q_bt x i = 0
    · rw [hb, if_pos nI_0]
      have e1 : q_one t 0 = t := by unfold q_one; rw [if_pos rfl]
      rw [e1]
      rw [if_pos hb] at h3
      exact ih (by omega) m I t (by omega) h1 (by omega)
    · rw [if_neg hb] at h3
      have hix : ok_ix (nI t.1) 160 := q_ix (by omega) (by omega)
      have hcl : (nI t.1).toNatClampNeg = t.1 := q_cl (by omega)
      rw [if_neg (nI_ne0 (by omega) (by omega)), h1.1, nI_1]
      simp only [if_pos hix, hcl]
      have e1 : q_one t (q_bt x i) = (t.1 + 1, fun k => if k = t.1 then q_bt x i else t.2 k) := by unfold q_one; rw [if_neg hb]
      rw [e1]
      obtain ⟨I', f1, f2, f3⟩ := ih (by omega) m (am_u (am_u I 54 t.1 (q_by (q_bt x i))) 53 6 (nI (t.1 + 1))) (t.1 + 1, fun k => if k = t.1 then q_bt x i else t.2 k) (by omega) ⟨by simp [am_u], fun k hk => by
        have hk' : k < t.1 + 1 := hk
        show am_u (am_u I 54 t.1 (q_by (q_bt x i))) 53 6 (nI (t.1 + 1)) 54 k = q_by (if k = t.1 then q_bt x i else t.2 k)
        by_cases e : k = t.1
        · rw [if_pos e, e]; simp [am_u]
        · rw [if_neg e, ← h1.2 k (by omega)]; simp [am_u, e]⟩ (by show t.1 + 1 + q_cnt x i ≤ 160; omega)
      refine ⟨I', f1, f2, fun a k h4 h5 => ?_⟩
      rw [f3 a k h4 h5]
      unfold am_u
      rw [if_neg h4, if_neg (by omega)]
end QF
