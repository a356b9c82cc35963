/-! ===== shares by weights, the reference ===== -/
/-- all but what its reader of rules lays -/
def q_vf (I0 I : Nat → Nat → Int32) : Prop := ∀ a c, ¬ (a = 57 ∨ (a = 53 ∧ 8 ≤ c ∧ c ≤ 25)) → I a c = I0 a c
theorem q_vf.R {I0 I : Nat → Nat → Int32} {D : q_Rd} (h : q_RM I0 D) (f : q_vf I0 I) : q_RM I D := h.of (f 53 26 (by omega)) (f 53 27 (by omega)) (fun a k _ => f a k (by omega))
/-- what is asked of its weight of one rider -/
def q_mc (n : Nat) (D : q_Rd) (w : Nat → Nat → Nat) (k : Nat) (I0 : Nat → Nat → Int32) : Prop := ∀ I J T, q_vf I0 I → (T = 54 ∨ T = 55) → ∀ r m, r < q_R D → 1 ≤ m → m ≤ q_R D → ∃ I' T', f_X12_weightOf n I J T (nI r) (nI m) (nI k) = some (nI (w r m), I', T') ∧ q_vf I0 I' ∧ (T' = 54 ∨ T' = 55)
section QM
variable {n : Nat} {D : q_Rd} {w : Nat → Nat → Nat} {I0 : Nat → Nat → Int32}
/-- some riders' values laid, over J0 -/
def q_lv (J0 J : Nat → Nat → Int64) (S r : Nat) (v : Nat → Int) : Prop := (∀ i, i < r → S.testBit i = true → J 66 i = zL (v i)) ∧ (∀ i, ¬ (i < r ∧ S.testBit i = true) → J 66 i = J0 66 i) ∧ ∀ a c, a ≠ 66 → ¬ (a = 53 ∧ c = 33) → J a c = J0 a c
theorem q_lv_s {J0 J J' : Nat → Nat → Int64} {S r : Nat} {v : Nat → Int} (h : q_lv J0 J S r v) (h1 : S.testBit r = true → J' 66 r = zL (v r)) (h2 : S.testBit r ≠ true → J' 66 r = J 66 r) (h3 : ∀ i, i ≠ r → J' 66 i = J 66 i) (h4 : ∀ a c, a ≠ 66 → ¬ (a = 53 ∧ c = 33) → J' a c = J a c) : q_lv J0 J' S (r + 1) v := by
  refine ⟨fun i hi hb => ?_, fun i hi => ?_, fun a c ha hc => by rw [h4 a c ha hc]; exact h.2.2 a c ha hc⟩
  · by_cases e : i = r
    · subst e; exact h1 hb
    · rw [h3 i e]; exact h.1 i (by omega) hb
  · by_cases e : i = r
    · subst e
      rw [h2 (fun z => hi ⟨Nat.lt_succ_self _, z⟩)]
      exact h.2.1 i (fun z => absurd z.1 (Nat.lt_irrefl _))
    · rw [h3 i e]
      exact h.2.1 i (fun z => hi ⟨by omega, z.2⟩)
theorem m_bw1 (hn : 300 ≤ n) (hD : q_ok D) (h0 : q_RM I0 D) {k : Nat} (hc : q_mc n D w k I0) (hwo : q_wok (q_R D) w) {S q : Nat} (hS : S < 64) (q1 : 1 ≤ q) (q2 : q ≤ q_R D) (J0 : Nat → Nat → Int64) : ∀ (m r : Nat) (I : Nat → Nat → Int32) (J : Nat → Nat → Int64) (T : Nat), r ≤ q_R D → q_R D - r < m → q_vf I0 I → (T = 54 ∨ T = 55) → q_lv J0 J S r (fun i => w i q) → J 53 33 = zL (q_sw w q S r : Nat) → ∃ I' J' T', f_X12_byWeights_8 n m I J T (nI S) (nI q) (nI k) (nI r) = (if q_sw w q S (q_R D) = 0 then f_X12_byWeights_81 n I' J' T' (nI S) (nI q) 1 else f_X12_byWeights_81 n I' J' T' (nI S) (nI q) 0) ∧ q_vf I0 I' ∧ (T' = 54 ∨ T' = 55) ∧ q_lv J0 J' S (q_R D) (fun i => w i q) ∧ J' 53 33 = zL (q_sw w q S (q_R D) : Nat) := by
  have hR := hD.1.2.1
  intro m
  induction m with
  | zero => intro r I J T _ h; omega
  | succ m ih =>
    intro r I J T hr hm hf hT hl hb
    have hx := hf.R h0
    rw [f_X12_byWeights_8, hx.1.2.1]
    by_cases e : r = q_R D
    · subst e
      have hle := q_sw_le hwo q S (q_R D) (Nat.le_refl _)
      rw [if_pos (Int32.le_refl _), hb]
      refine ⟨I, J, T, ?_, hf, hT, hl, hb⟩
      by_cases hz : q_sw w q S (q_R D) = 0
      · rw [if_pos hz, hz]
        have e : lg_cmp (zL ((0 : Nat) : Int)) 0 = 0 := (lg_cmp_eq _ _).mpr rfl
        rw [if_pos e]
      · have e : ¬ lg_cmp (zL ((q_sw w q S (q_R D) : Nat) : Int)) 0 = 0 := fun z => zL_ne0 (b := ((q_sw w q S (q_R D) : Nat) : Int)) (by omega) (by omega) ((lg_cmp_eq _ _).mp z)
        rw [if_neg hz, if_neg e]
    · rw [if_neg (nI_ge (by omega) (by omega)), m_has (by omega) (by omega)]
      by_cases hbt : S.testBit r = true
      · obtain ⟨I1, T1, e1, e2, e3⟩ := hc I J T hf hT r q (by omega) q1 q2
        have hwl := hwo r q (by omega)
        rw [if_pos hbt, Option.bind_some, if_neg q_10, e1, Option.bind_some, if_pos (q_ix (by omega) (by omega)), if_pos (q_ix (by omega) (by omega)), q_cl (by omega), nI_l (by omega), hb, zL_n, zL_add]
        unfold f_X12_byWeights_61
        rw [nI_1]
        refine ih (r + 1) I1 _ T1 (by omega) (by omega) e2 e3 (q_lv_s hl (fun _ => ?_) (fun z => absurd hbt z) (fun i hi => ?_) (fun a c ha hc2 => ?_)) ?_
        · simp [am_u]
        · unfold am_u
          rw [if_neg (by omega), if_neg (by omega)]
        · unfold am_u
          rw [if_neg hc2, if_neg (by omega)]
        · simp [am_u, q_sw, hbt]
      · rw [if_neg hbt, Option.bind_some, if_pos rfl]
        unfold f_X12_byWeights_61
        rw [nI_1]
        refine ih (r + 1) I J T (by omega) (by omega) hf hT (q_lv_s hl (fun z => absurd z hbt) (fun _ => rfl) (fun _ _ => rfl) (fun _ _ _ _ => rfl)) ?_
        rw [hb]
        simp [q_sw, hbt]
/-- the last step: each weight (or 1) times the cost -/
theorem m_bw2 {I : Nat → Nat → Int32} {T : Nat} (hn : 300 ≤ n) (hD : q_ok D) (h : q_RM I D) {S c : Nat} (hS : S < 64) (z : Bool) (J0 : Nat → Nat → Int64) (v : Nat → Nat) (hv : ∀ i, i < q_R D → S.testBit i = true → J0 66 i = zL (v i : Nat)) : ∀ (m r : Nat) (J : Nat → Nat → Int64), r ≤ q_R D → q_R D - r < m → q_lv J0 J S r (fun i => ((if z then 1 else v i) * c : Nat)) → J 53 33 = J0 53 33 → ∃ J', f_X12_byWeights_105 n m I J T (nI S) (if z then 1 else 0) (zL (c : Nat)) (nI r) = some (I, J', T) ∧ q_lv J0 J' S (q_R D) (fun i => ((if z then 1 else v i) * c : Nat)) ∧ J' 53 33 = J0 53 33 := by
  have hR := hD.1.2.1
  intro m
  induction m with
  | zero => intro r J _ h; omega
  | succ m ih =>
    intro r J hr hm hl hb
    rw [f_X12_byWeights_105, h.1.2.1]
    by_cases e : r = q_R D
    · subst e
      rw [if_pos (Int32.le_refl _)]
      exact ⟨J, rfl, hl, hb⟩
    · rw [if_neg (nI_ge (by omega) (by omega)), m_has (by omega) (by omega)]
      by_cases hbt : S.testBit r = true
      · have hJ : J 66 r = zL (v r : Nat) := by rw [hl.2.1 r (by omega)]; exact hv r (by omega) hbt
        have hix : ok_ix (nI r) 6 := q_ix (by omega) (by omega)
        have hcl : (nI r).toNatClampNeg = r := q_cl (by omega)
        rw [if_pos hbt, Option.bind_some, if_neg q_10]
        have hgo : ∀ x : Int64, x * zL (c : Nat) = zL (((if z then 1 else v r) * c : Nat) : Int) → ∃ J', f_X12_byWeights_145 n (f_X12_byWeights_105 n m) I J T (nI S) (if z then 1 else 0) (zL (c : Nat)) (nI r) (nI r) x = some (I, J', T) ∧ q_lv J0 J' S (q_R D) (fun i => ((if z then 1 else v i) * c : Nat)) ∧ J' 53 33 = J0 53 33 := by
          intro x hx
          unfold f_X12_byWeights_145 f_X12_byWeights_149
          rw [if_pos hix, hcl, hx, nI_1]
          refine ih (r + 1) _ (by omega) (by omega) (q_lv_s hl (fun _ => ?_) (fun y => absurd hbt y) (fun i hi => ?_) (fun a c ha hc2 => ?_)) ?_
          · simp [am_u]
          · unfold am_u
            rw [if_neg (by omega)]
          · unfold am_u
            rw [if_neg (by omega)]
          · rw [← hb]
            rfl
        cases z with
        | true =>
          rw [if_neg (show ¬ (if true = true then (1 : Int32) else 0) = 0 by decide)]
          exact hgo 1 (by show zL 1 * zL _ = _; rw [zL_mul]; congr 1)
        | false =>
          rw [if_pos (show (if false = true then (1 : Int32) else 0) = 0 by decide), if_pos hix, hcl, hJ]
          exact hgo _ (by rw [zL_mul]; congr 1)
      · rw [if_neg hbt, Option.bind_some, if_pos rfl]
        unfold f_X12_byWeights_149
        rw [nI_1]
        exact ih (r + 1) J (by omega) (by omega) (q_lv_s hl (fun y => absurd y hbt) (fun _ => rfl) (fun _ _ => rfl) (fun _ _ _ _ => rfl)) hb
end QM
