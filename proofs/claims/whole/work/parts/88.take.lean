/-! ===== a road taken ===== -/
def q_tk (s : q_Sg) (D : q_Rd) : q_Sg := (D, (0, (q_sT s).2), q_sU s, q_sF s, (0, (q_sS s).2), (0, 0, (fun _ => 0), q_lY (q_sL s)), false, q_sE s, q_sM s)
section QW
variable {n : Nat} {I : Nat → Nat → Int32} {J : Nat → Nat → Int64} {T : Nat}
theorem x_X2_become_v3_r : ∃ I', f_X2_become_v3 n I J T = some I' ∧ (∀ k, k < 5 → I' 3 k = I 9 k) ∧ (∀ k, k < 10 → I' 4 k = I 10 k ∧ I' 5 k = I 11 k) ∧ (∀ k, k < 6 → I' 6 k = I 12 k ∧ I' 7 k = I 13 k ∧ I' 8 k = I 14 k) ∧ ∀ a k, (a < 3 ∨ 8 < a) → I' a k = I a k := by
  refine ⟨_, rfl, fun k hk => ?_, fun k hk => ⟨?_, ?_⟩, fun k hk => ⟨?_, ?_, ?_⟩, fun a k ha => ?_⟩
  · have h : k = 0 ∨ k = 1 ∨ k = 2 ∨ k = 3 ∨ k = 4 := by omega
    rcases h with rfl | rfl | rfl | rfl | rfl <;> rfl
  · show (if k < 10 then I 10 k else I 4 k) = I 10 k
    rw [if_pos hk]
  · show (if k < 10 then I 11 k else I 5 k) = I 11 k
    rw [if_pos hk]
  · show (if k < 6 then I 12 k else I 6 k) = I 12 k
    rw [if_pos hk]
  · show (if k < 6 then I 13 k else I 7 k) = I 13 k
    rw [if_pos hk]
  · show (if k < 6 then I 14 k else I 8 k) = I 14 k
    rw [if_pos hk]
  · unfold am_row am_u
    simp only [if_neg (show ¬ a = 4 by omega), if_neg (show ¬ a = 5 by omega), if_neg (show ¬ a = 6 by omega), if_neg (show ¬ a = 7 by omega), if_neg (show ¬ a = 8 by omega), show ¬ a = 3 from by omega, false_and, if_false]
theorem x_fill42 (hn : 300 ≤ n) : ∃ J', f_J7_fill_d0a16 n I J T 0 = some J' ∧ (∀ k, k < 6 → J' 42 k = 0) ∧ ∀ a k, a ≠ 42 → J' a k = J a k := by
  have loop : ∀ (m c : Nat) (J : Nat → Nat → Int64), c ≤ 6 → 6 - c < m → ∃ J', f_J7_fill_d0a16_6 n m I J T 0 (nI c) 6 = some J' ∧ (∀ k, c ≤ k → k < 6 → J' 42 k = 0) ∧ (∀ k, k < c → J' 42 k = J 42 k) ∧ ∀ a k, a ≠ 42 → J' a k = J a k := by
    intro m
    induction m with
    | zero => intro c J _ h; omega
    | succ m ih =>
      intro c J hc hm
      rw [f_J7_fill_d0a16_6]
      by_cases e : c = 6
      · subst e
        rw [if_pos (show (6 : Int32) ≤ nI 6 by decide +kernel)]
        exact ⟨J, rfl, fun k a b => by omega, fun _ _ => rfl, fun _ _ _ => rfl⟩
      · have hix : ok_ix (nI c) 6 := q_ix (by omega) (by omega)
        have hcl : (nI c).toNatClampNeg = c := q_cl (by omega)
        rw [if_neg (show ¬ (6 : Int32) ≤ nI c from nI_ge (b := 6) (by omega) (by omega)), if_pos hix, hcl, nI_1]
        obtain ⟨J', f1, f2, f3, f4⟩ := ih (c + 1) (am_u J 42 c 0) (by omega) (by omega)
        refine ⟨J', f1, fun k a b => ?_, fun k a => ?_, fun a k h => ?_⟩
        · by_cases ek : k = c
          · rw [ek, f3 c (by omega)]; simp [am_u]
          · exact f2 k (by omega) b
        · rw [f3 k (by omega)]; unfold am_u; rw [if_neg (by omega)]
        · rw [f4 a k h]; unfold am_u; rw [if_neg (by omega)]
  obtain ⟨J', f1, f2, f3, f4⟩ := loop n 0 J (by omega) (by omega)
  exact ⟨J', f1, fun k hk => f2 k (Nat.zero_le _) hk, f4⟩
/-- what the reference takes over, cell by cell -/
theorem m_cp74 (hn : 300 ≤ n) : ∀ (m c : Nat) (J : Nat → Nat → Int64), c ≤ 6 → 6 - c < m → ∃ J', f_X12_text_222 n m I J T (nI c) = some (I 53 27, am_u (am_u (am_u (am_u I 53 48 0) 53 51 0) 53 52 0) 53 59 0, J', T) ∧ (∀ k, c ≤ k → k < 6 → J' 74 k = 0) ∧ (∀ k, k < c → J' 74 k = J 74 k) ∧ ∀ a k, a ≠ 74 → J' a k = J a k := by
  intro m
  induction m with
  | zero => intro c J _ h; omega
  | succ m ih =>
    intro c J hc hm
    rw [f_X12_text_222]
    by_cases e : c = 6
    · subst e
      rw [if_pos (show (6 : Int32) ≤ nI 6 by decide +kernel)]
      exact ⟨J, rfl, fun k a b => by omega, fun _ _ => rfl, fun _ _ _ => rfl⟩
    · have hix : ok_ix (nI c) 6 := q_ix (by omega) (by omega)
      have hcl : (nI c).toNatClampNeg = c := q_cl (by omega)
      rw [if_neg (show ¬ (6 : Int32) ≤ nI c from nI_ge (b := 6) (by omega) (by omega)), if_pos hix, hcl, nI_1]
      obtain ⟨J', f1, f2, f3, f4⟩ := ih (c + 1) (am_u J 74 c 0) (by omega) (by omega)
      refine ⟨J', f1, fun k a b => ?_, fun k a => ?_, fun a k h => ?_⟩
      · by_cases ek : k = c
        · rw [ek, f3 c (by omega)]; simp [am_u]
        · exact f2 k (by omega) b
      · rw [f3 k (by omega)]; unfold am_u; rw [if_neg (by omega)]
      · rw [f4 a k h]; unfold am_u; rw [if_neg (by omega)]
theorem m_cp61 : ∀ (m c : Nat) (I : Nat → Nat → Int32), c ≤ 3 → 3 - c < m → ∃ I', f_X12_text_197 n m I J T (nI c) = f_X12_text_222 n n I' J T 0 ∧ (∀ k, c ≤ k → k < 3 → I' 61 k = I 65 k) ∧ (∀ k, k < c → I' 61 k = I 61 k) ∧ ∀ a k, a ≠ 61 → I' a k = I a k := by
  intro m
  induction m with
  | zero => intro c I _ h; omega
  | succ m ih =>
    intro c I hc hm
    rw [f_X12_text_197]
    by_cases e : c = 3
    · subst e
      rw [if_pos (show (3 : Int32) ≤ nI 3 by decide +kernel)]
      exact ⟨I, rfl, fun k a b => by omega, fun _ _ => rfl, fun _ _ _ => rfl⟩
    · have hix : ok_ix (nI c) 3 := q_ix (by omega) (by omega)
      have hcl : (nI c).toNatClampNeg = c := q_cl (by omega)
      rw [if_neg (show ¬ (3 : Int32) ≤ nI c from nI_ge (b := 3) (by omega) (by omega)), if_pos hix, if_pos hix, hcl, nI_1]
      obtain ⟨I', f1, f2, f3, f4⟩ := ih (c + 1) (am_u I 61 c (I 65 c)) (by omega) (by omega)
      refine ⟨I', f1, fun k a b => ?_, fun k a => ?_, fun a k h => ?_⟩
      · by_cases ek : k = c
        · rw [ek, f3 c (by omega)]; simp [am_u]
        · rw [f2 k (by omega) b]; unfold am_u; rw [if_neg (by omega)]
      · rw [f3 k (by omega)]; unfold am_u; rw [if_neg (by omega)]
      · rw [f4 a k h]; unfold am_u; rw [if_neg (by omega)]
theorem m_cp60 : ∀ (m c : Nat) (I : Nat → Nat → Int32), c ≤ 18 → 18 - c < m → ∃ I', f_X12_text_171 n m I J T (nI c) = f_X12_text_197 n n I' J T 0 ∧ (∀ k, c ≤ k → k < 18 → I' 60 k = I 64 k) ∧ (∀ k, k < c → I' 60 k = I 60 k) ∧ ∀ a k, a ≠ 60 → I' a k = I a k := by
  intro m
  induction m with
  | zero => intro c I _ h; omega
  | succ m ih =>
    intro c I hc hm
    rw [f_X12_text_171]
    by_cases e : c = 18
    · subst e
      rw [if_pos (show (18 : Int32) ≤ nI 18 by decide +kernel)]
      exact ⟨I, rfl, fun k a b => by omega, fun _ _ => rfl, fun _ _ _ => rfl⟩
    · have hix : ok_ix (nI c) 18 := q_ix (by omega) (by omega)
      have hcl : (nI c).toNatClampNeg = c := q_cl (by omega)
      rw [if_neg (show ¬ (18 : Int32) ≤ nI c from nI_ge (b := 18) (by omega) (by omega)), if_pos hix, if_pos hix, hcl, nI_1]
      obtain ⟨I', f1, f2, f3, f4⟩ := ih (c + 1) (am_u I 60 c (I 64 c)) (by omega) (by omega)
      refine ⟨I', f1, fun k a b => ?_, fun k a => ?_, fun a k h => ?_⟩
      · by_cases ek : k = c
        · rw [ek, f3 c (by omega)]; simp [am_u]
        · rw [f2 k (by omega) b]; unfold am_u; rw [if_neg (by omega)]
      · rw [f3 k (by omega)]; unfold am_u; rw [if_neg (by omega)]
      · rw [f4 a k h]; unfold am_u; rw [if_neg (by omega)]
theorem m_cp58 : ∀ (m c : Nat) (I : Nat → Nat → Int32), c ≤ 10 → 10 - c < m → ∃ I', f_X12_text_133 n m I J T (nI c) = f_X12_text_171 n n I' J T 0 ∧ (∀ k, c ≤ k → k < 10 → I' 58 k = I 62 k ∧ I' 59 k = I 63 k) ∧ (∀ k, k < c → I' 58 k = I 58 k ∧ I' 59 k = I 59 k) ∧ ∀ a k, a ≠ 58 → a ≠ 59 → I' a k = I a k := by
  intro m
  induction m with
  | zero => intro c I _ h; omega
  | succ m ih =>
    intro c I hc hm
    rw [f_X12_text_133]
    by_cases e : c = 10
    · subst e
      rw [if_pos (show (10 : Int32) ≤ nI 10 by decide +kernel)]
      exact ⟨I, rfl, fun k a b => by omega, fun _ _ => ⟨rfl, rfl⟩, fun _ _ _ _ => rfl⟩
    · have hix : ok_ix (nI c) 10 := q_ix (by omega) (by omega)
      have hcl : (nI c).toNatClampNeg = c := q_cl (by omega)
      rw [if_neg (show ¬ (10 : Int32) ≤ nI c from nI_ge (b := 10) (by omega) (by omega)), if_pos hix, if_pos hix, if_pos hix, if_pos hix, hcl, nI_1]
      obtain ⟨I', f1, f2, f3, f4⟩ := ih (c + 1) (am_u (am_u I 58 c (I 62 c)) 59 c (I 63 c)) (by omega) (by omega)
      refine ⟨I', f1, fun k a b => ?_, fun k a => ?_, fun a k h h2 => ?_⟩
      · by_cases ek : k = c
        · rw [ek, (f3 c (by omega)).1, (f3 c (by omega)).2]; simp [am_u]
        · rw [(f2 k (by omega) b).1, (f2 k (by omega) b).2]; unfold am_u; rw [if_neg (by omega), if_neg (by omega), if_neg (by omega), if_neg (by omega)]; exact ⟨rfl, rfl⟩
      · rw [(f3 k (by omega)).1, (f3 k (by omega)).2]; unfold am_u; rw [if_neg (by omega), if_neg (by omega), if_neg (by omega), if_neg (by omega)]; exact ⟨rfl, rfl⟩
      · rw [f4 a k h h2]; unfold am_u; rw [if_neg (by omega), if_neg (by omega)]
end QW
section QS
variable {V : (Nat → Int32) → Int32 → Nat → (Nat → Nat) → Prop} {n B : Nat} {I I2 : Nat → Nat → Int32} {J J2 : Nat → Nat → Int64} {T : Nat} {s : q_Sg}
theorem q_dok.of_read {D : q_Rd} (h : q_pok D) (hw : q_wh D = true) : q_dok D := by
  obtain ⟨w1, w2, w3⟩ := (q_wh_iff D).mp hw
  obtain ⟨a, b, c⟩ := h
  exact ⟨⟨a, b, fun r hr => ⟨(c r hr).1, w3 r hr, (c r hr).2.2⟩⟩, ⟨fun z => by omega, fun z => by omega⟩, fun z => by omega⟩
theorem q_sok.tk (hs : q_sok B s) {D : q_Rd} (hD : q_dok D) : q_sok B (q_tk s D) := by
  obtain ⟨s1, s2, s3, s4, s5, s6, s7⟩ := hs
  exact ⟨hD, ⟨by show 0 ≤ 160; omega, fun k hk => absurd hk (Nat.not_lt_zero _)⟩, s3, s4, ⟨by show 0 ≤ 10; omega, fun k hk => absurd hk (Nat.not_lt_zero _)⟩, ⟨by show 0 ≤ 40; omega, Nat.le_refl _, Nat.zero_le _⟩, fun z => by cases z⟩
/-- the fault of a road's text -/
theorem i_fault0 (hn : 300 ≤ n) (hs : q_sok B s) (hX : q_HX V I J s) (hM : q_HM I2 J2 s) : ∃ r I' I2', f_X11_fault n I J T 0 = some (r, I') ∧ f_X12_fault n I2 J2 T 0 = some (r, I2', 54) ∧ q_HX V I' J s ∧ q_HM I2' J2 s ∧ q_fX I I' J J ∧ q_fM I2 I2' J2 J2 := by
  obtain ⟨v, I', f1, f2, f3, f4⟩ := x_read (n := n) (J := J) (T := T) hn hs.2.1 hX.2.1.1 hX.2.1.2
  obtain ⟨I3, g1, g2, g3⟩ := m_readRoad (n := n) (J := J2) (T := T) hn hs.2.1 (hM.th 0).2.1
  have hX' : q_HX V I' J s := hX.of hs.2.2.1 (fun a k h => by
    by_cases e : a = 1
    · rcases h with h | h | h | h | h | h
      · omega
      · rw [h.1, h.2, f3]; exact hX.2.1.1.symm
      · omega
      · omega
      · omega
      · omega
    · exact f2 a k e (by omega)) (fun a k h => f2 a k (by omega) (by omega)) (fun _ _ _ => rfl)
  have hM' : q_HM I3 J2 s := (hM.th 0).of (fun k h => g2 53 k (by omega) (by omega)) (fun a k h => g2 a k (by omega) (by omega)) (fun _ _ _ => rfl)
  have hfX : q_fX I I' J J := ⟨fun a k h => f2 a k (by omega) (by omega), fun _ _ _ => rfl⟩
  have hfM : q_fM I2 I3 J2 J2 := ⟨fun a k h => by rw [g2 a k (by omega) (by omega)]; unfold am_u; rw [if_neg (by omega)], fun _ _ _ => rfl⟩
  have hin : f_X12_isIn n (am_u I2 53 0 0) J2 T (0 : Int32).toInt64 0 1 = some 1 := by
    unfold f_X12_isIn
    rw [if_neg (by decide), if_neg (by decide)]
  have hv : v = I3 53 11 := by
    cases hq : q_rd (q_sT s) with
    | inl f => rw [hq] at f4 g3; rw [f4.1]; exact g3.symm
    | inr D => rw [hq] at f4 g3; rw [f4.1]; exact g3.1.symm
  unfold f_X11_fault f_X12_fault f_X12_fault_42
  rw [if_pos rfl, f1, Option.bind_some, hin, Option.bind_some, if_neg q_10, if_pos rfl, g1, Option.bind_some]
  exact ⟨v, I', I3, rfl, by rw [hv], hX', hM', hfX, hfM⟩
end QS
