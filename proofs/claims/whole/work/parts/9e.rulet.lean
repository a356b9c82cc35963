/-! ===== a rule taken ===== -/
/-- a rule's code belongs to its text -/
def q_Vr (codes : Nat → Int32) (size : Int32) (len : Nat) (bytes : Nat → Nat) : Prop := ∃ r, q_rule (len, bytes) = .inr r ∧ r.1.length ≤ 160 ∧ size = nI r.1.length ∧ ∀ i, i < r.1.length → codes i = r.1.getD i 0
def q_tr (s : q_Sg) : q_Sg := (q_sD s, (0, (q_sT s).2), ((q_sU s).1 + 1, q_tu (q_sU s).2.1 (q_sU s).1 (q_sT s).1, fun k => if k = (q_sU s).1 then (q_sT s).2 else (q_sU s).2.2 k), q_sF s, q_sS s, q_sL s, q_sK s, q_sE s, q_sM s)
theorem q_by_by : ∀ b, b < 256 → (q_by b).toInt8.toInt32 = q_by b := by decide +kernel
section QW
variable {n : Nat} {J : Nat → Nat → Int64} {T : Nat}
theorem m_cp55 {u N : Nat} (hu : u < 4) (hN : N ≤ 160) : ∀ (m c : Nat) (I : Nat → Nat → Int32), c ≤ N → N - c < m → I 53 7 = nI u → ∃ I', f_X12_text_56 n m I J T (nI N) (nI c) = some (nI u, am_u (am_u I' 56 u (nI N)) 53 7 (nI (u + 1)), J, T) ∧ (∀ i, c ≤ i → i < N → I' 55 (160 * u + i) = (I 54 i).toInt8.toInt32) ∧ (∀ i, ¬ (160 * u + c ≤ i ∧ i < 160 * u + N) → I' 55 i = I 55 i) ∧ ∀ x y, x ≠ 55 → I' x y = I x y := by
  intro m
  induction m with
  | zero => intro c I _ h; omega
  | succ m ih =>
    intro c I hc hm h7
    rw [f_X12_text_56]
    simp only [h7]
    by_cases e : c = N
    · subst e
      have hix : ok_ix (nI u) 4 := q_ix (by omega) (by omega)
      have hcl : (nI u).toNatClampNeg = u := q_cl (by omega)
      have hm1 : nI u + 1 - 1 = nI u := by rw [nI_1, show (1 : Int32) = nI 1 from rfl, pk_sub (by omega), Nat.add_sub_cancel]
      have h7' : am_u I 56 u (nI c) 53 7 = nI u := by
        unfold am_u
        rw [if_neg (by omega)]
        exact h7
      rw [if_pos (nI_le (by omega) (by omega)), if_pos hix, hcl, hm1, nI_1]
      exact ⟨I, rfl, fun i a b => by omega, fun _ _ => rfl, fun _ _ _ => rfl⟩
    · have hix : ok_ix (nI c) 160 := q_ix (by omega) (by omega)
      have hcl : (nI c).toNatClampNeg = c := q_cl (by omega)
      have e160 : (160 : Int32) * nI u + nI c = nI (160 * u + c) := by rw [show (160 : Int32) * nI u = nI (160 * u) from pk_mul 160 u, nI_add]
      have hix2 : ok_ix (nI (160 * u + c)) 640 := q_ix (by omega) (by omega)
      have hcl2 : (nI (160 * u + c)).toNatClampNeg = 160 * u + c := q_cl (by omega)
      rw [if_neg (nI_ge (by omega) (by omega)), if_pos hix, e160, if_pos hix2, hcl, hcl2, nI_1]
      obtain ⟨I', f1, f2, f3, f4⟩ := ih (c + 1) (am_u I 55 (160 * u + c) ((I 54 c).toInt8.toInt32)) (by omega) (by omega) (by unfold am_u; rw [if_neg (by omega)]; exact h7)
      refine ⟨I', f1, fun i a b => ?_, fun i a => ?_, fun x y h => ?_⟩
      · by_cases ei : i = c
        · rw [ei, f3 (160 * u + c) (by omega)]; simp [am_u]
        · rw [f2 i (by omega) b]; unfold am_u; rw [if_neg (by omega)]
      · rw [f3 i (by omega)]; unfold am_u; rw [if_neg (by omega)]
      · rw [f4 x y h]; unfold am_u; rw [if_neg (by omega)]
end QW
section QS
variable {V : (Nat → Int32) → Int32 → Nat → (Nat → Nat) → Prop} {n B : Nat} {I I2 : Nat → Nat → Int32} {J J2 : Nat → Nat → Int64} {T : Nat} {s : q_Sg}
theorem q_sok.tr (hs : q_sok B s) (h4 : (q_sU s).1 < 4) : q_sok B (q_tr s) := by
  obtain ⟨s1, s2, s3, s4, s5, s6, s7⟩ := hs
  refine ⟨s1, ⟨by show 0 ≤ 160; omega, fun k hk => absurd hk (Nat.not_lt_zero _)⟩, ⟨by show (q_sU s).1 + 1 ≤ 4; omega, fun k hk => ?_⟩, s4, s5, s6, s7⟩
  have hk' : k < (q_sU s).1 + 1 := hk
  show q_tok (q_tu (q_sU s).2.1 (q_sU s).1 (q_sT s).1 k, if k = (q_sU s).1 then (q_sT s).2 else (q_sU s).2.2 k)
  unfold q_tu
  by_cases e : k = (q_sU s).1
  · rw [if_pos e, if_pos e]; exact s2
  · rw [if_neg e, if_neg e]; exact s3.2 k (by omega)
theorem q_rule_le {t : q_Tx} {f : Nat} (ht : q_tok t) (h : q_rule t = .inl f) : f ≤ t.1 := by
  obtain ⟨v, Iz, z1, z2, z3, z4⟩ := x_rule (n := 300) (J := fun _ _ => 0) (T := 0) (I := fun a k => if a = 1 then nI t.1 else q_by (t.2 k)) (by omega) ht (by simp) (fun i hi => by simp)
  rw [h] at z4
  exact z4.2
theorem x_rule_HX (hn : 300 ≤ n) (hs : q_sok B s) (hX : q_HX V I J s) : ∃ v I', f_X4_read n I J T = some (v, I') ∧ q_fr3 I I' ∧ q_HX V I' J s ∧ match q_rule (q_sT s) with
    | .inl f => v = nI f ∧ f ≤ (q_sT s).1
    | .inr r => v = -1 ∧ q_cd I' r.1 := by
  obtain ⟨v, I', f1, f2, f3, f4⟩ := x_rule (n := n) (J := J) (T := T) hn hs.2.1 hX.2.1.1 hX.2.1.2
  refine ⟨v, I', f1, f2, hX.of hs.2.2.1 (fun a k h => ?_) (fun a k h => f2 a k (by omega) (by omega) (by omega)) (fun _ _ _ => rfl), f4⟩
  by_cases e : a = 1
  · rcases h with h | h | h | h | h | h
    · omega
    · rw [h.1, h.2, f3]; exact hX.2.1.1.symm
    · omega
    · omega
    · omega
    · omega
  · exact f2 a k e (by omega) (by omega)
theorem m_rule_HM (hn : 300 ≤ n) (hs : q_sok B s) (hM : q_HM I2 J2 s) : ∃ I', f_X12_goThrough_v2 n I2 J2 T 0 (I2 53 6) = some (I', 54) ∧ (∀ x y, ¬ (x = 53 ∧ 8 ≤ y ∧ y ≤ 17) → I' x y = I2 x y) ∧ q_HM I' J2 s ∧ match q_rule (q_sT s) with
    | .inl f => I' 53 11 = nI f ∧ f ≤ (q_sT s).1
    | .inr _ => I' 53 11 = -1 := by
  have h160 := hs.2.1.1
  obtain ⟨I3, g1, g2, g3⟩ := m_gr_v2 (n := n) (J := J2) (T := T) hn hs.2.1 (o := 0) (by omega) (I := I2) (E := fun p => I2 57 p) (fun _ _ => rfl) (fun i hi => by rw [Nat.zero_add]; exact hM.2.1.2 i hi)
  have h6 : I2 53 6 = nI (q_sT s).1 := hM.2.1.1
  rw [h6]
  refine ⟨I3, g1, g2, hM.of (fun k h => g2 53 k (by omega)) (fun a k h => g2 a k (by omega)) (fun _ _ _ => rfl), ?_⟩
  cases hq : q_rule (q_sT s) with
  | inl f => rw [hq] at g3; exact ⟨g3.2, g3.1⟩
  | inr r => rw [hq] at g3; exact g3.1
theorem m_fault1 (hn : 300 ≤ n) (hs : q_sok B s) (hM : q_HM I2 J2 s) : ∃ I', f_X12_fault n I2 J2 T 1 = some (I' 53 11, I', 54) ∧ (∀ x y, x ≠ 53 → I' x y = I2 x y) ∧ q_HM I' J2 s ∧ match q_rule (q_sT s) with
    | .inl f => I' 53 11 = nI f ∧ f ≤ (q_sT s).1
    | .inr _ => I' 53 11 = -1 := by
  obtain ⟨I3, g1, g2, g3, g4⟩ := m_rule_HM (n := n) (T := T) hn hs (hM.th 0)
  have hin : f_X12_isIn n (am_u I2 53 0 0) J2 T (1 : Int32).toInt64 0 1 = some 1 := by
    unfold f_X12_isIn
    rw [if_neg (by decide), if_neg (by decide)]
  have e6 : am_u I2 53 0 0 53 6 = I2 53 6 := by unfold am_u; rw [if_neg (by omega)]
  rw [e6] at g1
  unfold f_X12_fault f_X12_fault_42
  rw [hin, Option.bind_some, if_neg q_10, if_neg (by exact q_10), g1, Option.bind_some]
  exact ⟨I3, rfl, fun x y h => by rw [g2 x y (by omega)]; unfold am_u; rw [if_neg (by omega)], g3, g4⟩
/-- the fault of a rule's text -/
theorem i_fault1 (hn : 300 ≤ n) (hs : q_sok B s) (hX : q_HX V I J s) (hM : q_HM I2 J2 s) : ∃ r I' I2', f_X11_fault n I J T 1 = some (r, I') ∧ f_X12_fault n I2 J2 T 1 = some (r, I2', 54) ∧ q_HX V I' J s ∧ q_HM I2' J2 s ∧ q_fX I I' J J ∧ q_fM I2 I2' J2 J2 := by
  obtain ⟨v, I1, f1, f2, f3, f4⟩ := x_rule_HX (n := n) (T := T) hn hs hX
  obtain ⟨I3, g1, g2, g3, g4⟩ := m_fault1 (n := n) (T := T) hn hs hM
  have hv : v = I3 53 11 := by
    cases hq : q_rule (q_sT s) with
    | inl f => rw [hq] at f4 g4; rw [f4.1, g4.1]
    | inr r => rw [hq] at f4 g4; rw [f4.1]; exact g4.symm
  refine ⟨v, I1, I3, ?_, by rw [hv]; exact g1, f3, g3, ⟨fun a k h => f2 a k (by omega) (by omega) (by omega), fun _ _ _ => rfl⟩, ⟨fun a k h => g2 a k (by omega), fun _ _ _ => rfl⟩⟩
  unfold f_X11_fault
  rw [if_neg (by exact q_10), if_pos rfl, f1, Option.bind_some]
end QS
