/-! ===== undo ===== -/
theorem x_row {n : Nat} {I : Nat → Nat → Int32} {J : Nat → Nat → Int64} {T N : Nat} (h : I 41 2 = nI N) (hN : N < 2 ^ 20) : f_X0_row n I J T = some (nI (N % 40 * 6)) := by
  unfold f_X0_row
  have e1 : nI N / 40 = nI (N / 40) := pk_div (d := 40) (by omega) (by omega) (by omega)
  have e2 : nI (N / 40) * 40 = nI (N / 40 * 40) := pk_mul _ 40
  have e3 : nI N - nI (N / 40 * 40) = nI (N % 40) := by
    rw [pk_sub (by omega)]
    congr 1
    omega
  have e4 : nI (N % 40) * 6 = nI (N % 40 * 6) := pk_mul _ 6
  rw [h, e1, e2, e3, e4]
section QS
variable {V : (Nat → Int32) → Int32 → Nat → (Nat → Nat) → Prop} {n B : Nat} {I I2 : Nat → Nat → Int32} {J J2 : Nat → Nat → Int64} {T : Nat} {s : q_Sg}
theorem x_undo_loop {w : Nat} (hw : w + 6 ≤ 240) : ∀ (m k : Nat) (J : Nat → Nat → Int64), k ≤ 6 → 6 - k < m → ∃ J', f_X0_takeBack_36 n m I J T (nI w) (nI k) = some (1, I, J') ∧ (∀ r, k ≤ r → r < 6 → J' 42 r = J 42 r - J 43 (w + r)) ∧ (∀ r, r < k → J' 42 r = J 42 r) ∧ ∀ a r, a ≠ 42 → J' a r = J a r := by
  intro m
  induction m with
  | zero => intro k J _ h; omega
  | succ m ih =>
    intro k J hk hm
    rw [f_X0_takeBack_36]
    by_cases e : k = 6
    · subst e
      rw [if_pos (show (6 : Int32) ≤ nI 6 by decide +kernel)]
      exact ⟨J, rfl, fun r a b => by omega, fun _ _ => rfl, fun _ _ _ => rfl⟩
    · have e1 : ¬ (6 : Int32) ≤ nI k := nI_ge (b := 6) (by omega) (by omega)
      have hix : ok_ix (nI k) 6 := q_ix (by omega) (by omega)
      have hix2 : ok_ix (nI (w + k)) 240 := q_ix (by omega) (by omega)
      have hcl : (nI k).toNatClampNeg = k := q_cl (by omega)
      have hcl2 : (nI (w + k)).toNatClampNeg = w + k := q_cl (by omega)
      rw [if_neg e1, nI_add, nI_1]
      simp only [if_pos hix, if_pos hix2, hcl, hcl2]
      obtain ⟨J', f1, f2, f3, f4⟩ := ih (k + 1) (am_u J 42 k (J 42 k - J 43 (w + k))) (by omega) (by omega)
      refine ⟨J', f1, fun r r1 r2 => ?_, fun r r1 => ?_, fun a r ha => ?_⟩
      · by_cases hr : r = k
        · subst hr
          rw [f3 r (by omega)]
          simp [am_u]
        · rw [f2 r (by omega) r2]
          simp [am_u, hr]
      · rw [f3 r (by omega)]
        unfold am_u
        rw [if_neg (by omega)]
      · rw [f4 a r ha]
        unfold am_u
        rw [if_neg (by omega)]
theorem m_undo_loop {R u : Nat} (hR : R ≤ 6) (hu : u < 40) (h1 : I 53 27 = nI R) (h2 : I 53 52 = nI u) : ∀ (m k : Nat) (J : Nat → Nat → Int64), k ≤ R → R - k < m → ∃ J', f_X12_undo_36 n m I J T (nI k) = some (I 53 51, I, J') ∧ (∀ r, k ≤ r → r < R → J' 74 r = J 74 r - J 75 (6 * u + r)) ∧ (∀ r, r < k → J' 74 r = J 74 r) ∧ ∀ a r, a ≠ 74 → J' a r = J a r := by
  intro m
  induction m with
  | zero => intro k J _ h; omega
  | succ m ih =>
    intro k J hk hm
    rw [f_X12_undo_36, h1, h2]
    by_cases e : k = R
    · subst e
      rw [if_pos (Int32.le_refl _)]
      exact ⟨J, rfl, fun r a b => by omega, fun _ _ => rfl, fun _ _ _ => rfl⟩
    · have e1 : ¬ nI R ≤ nI k := nI_ge (by omega) (by omega)
      have e6 : (6 : Int32) * nI u = nI (6 * u) := pk_mul 6 u
      have hix : ok_ix (nI k) 6 := q_ix (by omega) (by omega)
      have hix2 : ok_ix (nI (6 * u + k)) 240 := q_ix (by omega) (by omega)
      have hcl : (nI k).toNatClampNeg = k := q_cl (by omega)
      have hcl2 : (nI (6 * u + k)).toNatClampNeg = 6 * u + k := q_cl (by omega)
      rw [if_neg e1, e6, nI_add, nI_1]
      simp only [if_pos hix, if_pos hix2, hcl, hcl2, Option.bind_some]
      obtain ⟨J', f1, f2, f3, f4⟩ := ih (k + 1) (am_u J 74 k (J 74 k - J 75 (6 * u + k))) (by omega) (by omega)
      refine ⟨J', f1, fun r r1 r2 => ?_, fun r r1 => ?_, fun a r ha => ?_⟩
      · by_cases hr : r = k
        · subst hr
          rw [f3 r (by omega)]
          simp [am_u]
        · rw [f2 r (by omega) r2]
          simp [am_u, hr]
      · rw [f3 r (by omega)]
        unfold am_u
        rw [if_neg (by omega)]
      · rw [f4 a r ha]
        unfold am_u
        rw [if_neg (by omega)]
theorem i_undo (hn : 300 ≤ n) (hB : B < 2 ^ 20) (hs : q_sok B s) (hX : q_HX V I J s) (hM : q_HM I2 J2 s) : ∃ r I' J' I2' J2' s', f_X11_undo n I J T = some (r, I', J') ∧ f_X12_undo n I2 J2 T = some (r, I2', J2') ∧ q_HX V I' J' s' ∧ q_HM I2' J2' s' ∧ q_sok B s' ∧ q_fX I I' J J' ∧ q_fM I2 I2' J2 J2' := by
  obtain ⟨s1, s2, s3, s4, s5, s6, s7⟩ := hs
  obtain ⟨a, b, c, d, i, l, m, t, w⟩ := hX
  obtain ⟨u1, u2, u3⟩ := s6
  have hR := s1.1.1.2.1
  have hM2 := hM
  obtain ⟨a', b', c', d', i', l', m', t'⟩ := hM2
  unfold f_X11_undo f_X12_undo f_X0_takeBack
  rw [l.2.1, l'.2.1]
  by_cases hU : q_lU (q_sL s) = 0
  · rw [hU, if_pos nI_0, if_pos nI_0]
    exact ⟨_, _, _, _, _, s, rfl, rfl, ⟨a, b, c, d, i, l, m, t, w⟩, hM.th _, ⟨s1, s2, s3, s4, s5, ⟨u1, u2, u3⟩, s7⟩, q_fX.r _ _, q_fM.th _ _ _⟩
  · have e1 : nI (q_lN (q_sL s)) - 1 = nI (q_lN (q_sL s) - 1) := pk_sub (b := 1) (by omega)
    have e2 : nI (q_lU (q_sL s)) - 1 = nI (q_lU (q_sL s) - 1) := pk_sub (b := 1) (by omega)
    rw [if_neg (nI_ne0 (by omega) (by omega)), if_neg (nI_ne0 (by omega) (by omega)), l.1, l'.1, e1, e2, x_row (N := q_lN (q_sL s) - 1) (by simp [am_u]) (by omega), Option.bind_some]
    obtain ⟨J', f1, f2, f3, f4⟩ := x_undo_loop (n := n) (T := T) (I := am_u (am_u I 41 2 (nI (q_lN (q_sL s) - 1))) 41 3 (nI (q_lU (q_sL s) - 1))) (w := (q_lN (q_sL s) - 1) % 40 * 6) (by omega) n 0 J (by omega) (by omega)
    obtain ⟨J2', g1, g2, g3, g4⟩ := m_undo_loop (n := n) (T := T) (I := am_u (am_u (am_u I2 53 0 0) 53 52 (nI (q_lU (q_sL s) - 1))) 53 51 (nI (q_lN (q_sL s) - 1))) (R := q_R (q_sD s)) (u := q_lU (q_sL s) - 1) hR (by omega) a'.1.2.1 (by simp [am_u]) n 0 J2 (by omega) (by omega)
    have f1' : f_X0_takeBack_36 n n (am_u (am_u I 41 2 (nI (q_lN (q_sL s) - 1))) 41 3 (nI (q_lU (q_sL s) - 1))) J T (nI ((q_lN (q_sL s) - 1) % 40 * 6)) 0 = _ := f1
    have g1' : f_X12_undo_36 n n (am_u (am_u (am_u I2 53 0 0) 53 52 (nI (q_lU (q_sL s) - 1))) 53 51 (nI (q_lN (q_sL s) - 1))) J2 T 0 = _ := g1
    rw [f1', g1', Option.bind_some, if_neg q_10]
    have hj : ∀ j, q_lN (q_sL s) - 1 ≤ j + (q_lU (q_sL s) - 1) → j < q_lN (q_sL s) - 1 → q_lN (q_sL s) ≤ j + q_lU (q_sL s) ∧ j < q_lN (q_sL s) := fun j x y => by omega
    refine ⟨nI (q_lN (q_sL s) - 1), am_u (am_u I 41 2 (nI (q_lN (q_sL s) - 1))) 41 3 (nI (q_lU (q_sL s) - 1)), J', am_u (am_u (am_u I2 53 0 0) 53 52 (nI (q_lU (q_sL s) - 1))) 53 51 (nI (q_lN (q_sL s) - 1)), J2', (q_sD s, q_sT s, q_sU s, q_sF s, q_sS s, (q_lN (q_sL s) - 1, q_lU (q_sL s) - 1, (fun r => q_lP (q_sL s) r - q_lY (q_sL s) (q_lN (q_sL s) - 1) r), q_lY (q_sL s)), s.2.2.2.2.2.2), rfl, ?_, ⟨a.of3 (fun x y z w => by unfold am_u; rw [if_neg (by omega), if_neg (by omega)]), b.of rfl (fun _ => rfl), c.of s3.1 rfl (fun x y z w => by unfold am_u; rw [if_neg (by omega), if_neg (by omega)]), d, i.of rfl (fun x y z => by unfold am_u; rw [if_neg (by omega), if_neg (by omega)]), ⟨?_, ?_, fun r hr => ?_, fun j j1 j2 r hr => ?_⟩, m, fun z => ⟨(t z).1.of3 (fun x y z w => by unfold am_u; rw [if_neg (by omega), if_neg (by omega)]), (t z).2.of rfl rfl (fun _ => f4 _ _ (by omega)) (fun _ => f4 _ _ (by omega))⟩, fun j hj => w j hj⟩, ⟨a'.of rfl rfl (fun x y z => by unfold am_u; rw [if_neg (by omega), if_neg (by omega), if_neg (by omega)]), b'.of rfl (fun _ => rfl), c'.of rfl (fun x y z => by unfold am_u; rw [if_neg (by omega), if_neg (by omega), if_neg (by omega)]), d', i'.of rfl (fun x y z => by unfold am_u; rw [if_neg (by omega), if_neg (by omega), if_neg (by omega)]), ⟨?_, ?_, fun r hr => ?_, fun j j1 j2 r hr => ?_⟩, m', fun z => ⟨(t' z).1, (t' z).2.1, (t' z).2.2.of rfl rfl (fun _ => g4 _ _ (by omega)) (fun _ => g4 _ _ (by omega))⟩⟩, ⟨s1, s2, s3, s4, s5, ⟨by show q_lU (q_sL s) - 1 ≤ 40; omega, by show q_lU (q_sL s) - 1 ≤ q_lN (q_sL s) - 1; omega, by show q_lN (q_sL s) - 1 ≤ B; omega⟩, s7⟩, ⟨fun x y z => by unfold am_u; rw [if_neg (by omega), if_neg (by omega)], fun x y z => f4 _ _ (by omega)⟩, ⟨fun x y z => by unfold am_u; rw [if_neg (by omega), if_neg (by omega), if_neg (by omega)], fun x y z => g4 _ _ (by omega)⟩⟩
    · rfl
    · rfl
    · rfl
    · show J' 42 r = q_lP (q_sL s) r - q_lY (q_sL s) (q_lN (q_sL s) - 1) r
      rw [f2 r (by omega) (by have : r < q_R (q_sD s) := hr; omega), l.2.2.1 r hr, l.2.2.2 (q_lN (q_sL s) - 1) (by omega) (by omega) r hr]
    · obtain ⟨j3, j4⟩ := hj j j1 j2
      rw [f4 _ _ (by omega)]
      exact l.2.2.2 j j3 j4 r hr
    · rfl
    · rfl
    · show J2' 74 r = q_lP (q_sL s) r - q_lY (q_sL s) (q_lN (q_sL s) - 1) r
      have e := l'.2.2.2 (q_lN (q_sL s) - 1) (by omega) (by omega) r hr
      have e3 : q_lN (q_sL s) - 1 + q_lU (q_sL s) - q_lN (q_sL s) = q_lU (q_sL s) - 1 := by omega
      rw [e3] at e
      rw [g2 r (by omega) hr, l'.2.2.1 r hr, e]
    · obtain ⟨j3, j4⟩ := hj j j1 j2
      have e3 : j + (q_lU (q_sL s) - 1) - (q_lN (q_sL s) - 1) = j + q_lU (q_sL s) - q_lN (q_sL s) := by omega
      show J2' 75 (6 * (j + (q_lU (q_sL s) - 1) - (q_lN (q_sL s) - 1)) + r) = _
      rw [e3, g4 _ _ (by omega)]
      exact l'.2.2.2 j j3 j4 r hr
end QS
