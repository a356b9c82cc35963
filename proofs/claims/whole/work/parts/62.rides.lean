/-! ===== a night paid, the reference ===== -/
theorem q_HM.nl {I I' : Nat → Nat → Int32} {J J' : Nat → Nat → Int64} {s : q_Sg} (h : q_HM I J s) (f : ∀ k, (k = 26 ∨ k = 27 ∨ k = 6 ∨ k = 7 ∨ k = 31 ∨ k = 48 ∨ k = 57 ∨ k = 58 ∨ k = 59) → I' 53 k = I 53 k) (e : ∀ a k, (a = 54 ∨ a = 55 ∨ a = 56 ∨ (58 ≤ a ∧ a ≤ 61) ∨ (71 ≤ a ∧ a ≤ 73) ∨ a = 76 ∨ a = 77) → I' a k = I a k) (g : ∀ a k, (a = 78 ∨ a = 79) → J' a k = J a k) (L : q_Lg) (hl : q_LM 51 52 74 75 I' J' (q_R (q_sD s)) L) : q_HM I' J' (q_nl s L) := by
  obtain ⟨a, b, c, d, i, l, k, m⟩ := h
  refine ⟨a.of (f _ (by omega)) (f _ (by omega)) (fun x y z => e x y (by omega)), b.of (f _ (by omega)) (fun y => e _ y (by omega)), c.of (f _ (by omega)) (fun x y z => e x y (by omega)), by rw [f _ (by omega)]; exact d, i.of (f _ (by omega)) (fun x y z => e x y (by omega)), hl, by rw [f _ (by omega)]; exact k, fun z => ?_⟩
  obtain ⟨m1, m2, m3⟩ := m z
  exact ⟨fun r x => by rw [e _ _ (by omega)]; exact m1 r x, fun p x y => by rw [e _ _ (by omega)]; exact m2 p x y, m3.of (f _ (by omega)) (f _ (by omega)) (fun y => g _ y (by omega)) (fun y => g _ y (by omega))⟩
theorem m_shift_loop {n : Nat} {I : Nat → Nat → Int32} {T : Nat} (x1 x2 : Int32) : ∀ (m k : Nat) (J : Nat → Nat → Int64), k ≤ 234 → 234 - k < m → ∃ J', f_X12_ridesBy_11 n m I J T x1 x2 (nI k) = f_X12_ridesBy_49 n (am_u I 53 52 (I 53 52 - 1)) J' T x1 x2 ∧ (∀ c, k ≤ c → c < 234 → J' 75 c = J 75 (c + 6)) ∧ (∀ c, c < k → J' 75 c = J 75 c) ∧ (∀ a c, a ≠ 75 → J' a c = J a c) := by
  intro m
  induction m with
  | zero => intro k J _ h; omega
  | succ m ih =>
    intro k J hk hm
    rw [f_X12_ridesBy_11]
    by_cases e : k = 234
    · subst e
      rw [if_pos (show (234 : Int32) ≤ nI 234 by decide +kernel)]
      exact ⟨J, rfl, fun c a b => by omega, fun _ _ => rfl, fun _ _ _ => rfl⟩
    · have e6 : nI k + 6 = nI (k + 6) := by
        show nI k + nI 6 = _
        rw [nI_add]
      have hix : ok_ix (nI (k + 6)) 240 := q_ix (by omega) (by omega)
      have hix2 : ok_ix (nI k) 240 := q_ix (by omega) (by omega)
      have hcl : (nI k).toNatClampNeg = k := q_cl (by omega)
      have hcl2 : (nI (k + 6)).toNatClampNeg = k + 6 := q_cl (by omega)
      rw [if_neg (show ¬ (234 : Int32) ≤ nI k from nI_ge (b := 234) (by omega) (by omega)), e6, if_pos hix, if_pos hix2, hcl, hcl2, nI_1]
      obtain ⟨J', f1, f2, f3, f4⟩ := ih (k + 1) (am_u J 75 k (J 75 (k + 6))) (by omega) (by omega)
      refine ⟨J', f1, fun c c1 c2 => ?_, fun c c1 => ?_, fun a c ha => ?_⟩
      · by_cases ec : c = k
        · subst ec
          rw [f3 c (by omega)]
          simp [am_u]
        · rw [f2 c (by omega) c2]
          unfold am_u
          rw [if_neg (by omega)]
      · rw [f3 c (by omega)]
        unfold am_u
        rw [if_neg (by omega)]
      · rw [f4 a c ha]
        unfold am_u
        rw [if_neg (by omega)]
section QW
variable {n : Nat} {D : q_Rd} {w : Nat → Nat → Nat}
theorem m_rides_loop (hD : q_ok D) (hwo : q_wok (q_R D) w) {k S U : Nat} (hU : U < 40) (hS : S < 2 ^ q_R D) {I : Nat → Nat → Int32} {T : Nat} (h : q_RM I D) (hu : I 53 52 = nI U) : ∀ (m r : Nat) (J : Nat → Nat → Int64), r ≤ q_R D → q_R D - r < m → (∀ i, i < q_R D → S.testBit i = true → J 66 i = zL (q_A D w k S i)) → (S ≠ 0 → J 53 33 = zL (q_B D w k S : Nat)) → ∃ J', f_X12_ridesBy_61 n m I J T (nI S) (nI r) = some (am_u (am_u I 53 52 (I 53 52 + 1)) 53 51 (I 53 51 + 1), J', T) ∧ (∀ i, r ≤ i → i < q_R D → J' 75 (6 * U + i) = q_py D w k S i ∧ J' 74 i = J 74 i + q_py D w k S i) ∧ (∀ a c, ¬ (a = 75 ∧ 6 * U + r ≤ c ∧ c < 6 * U + 6) → ¬ (a = 74 ∧ r ≤ c ∧ c < 6) → J' a c = J a c) := by
  have hR := hD.1.2.1
  have hp := (q_pow2 (q_R D) hR).2
  intro m
  induction m with
  | zero => intro r J _ h; omega
  | succ m ih =>
    intro r J hr hm hA hB
    rw [f_X12_ridesBy_61, h.1.2.1]
    by_cases e : r = q_R D
    · subst e
      rw [if_pos (Int32.le_refl _)]
      exact ⟨J, rfl, fun i a b => by omega, fun _ _ _ _ => rfl⟩
    · have hix : ok_ix (nI r) 6 := q_ix (by omega) (by omega)
      have hix2 : ok_ix (nI (6 * U + r)) 240 := q_ix (by omega) (by omega)
      have hcl : (nI r).toNatClampNeg = r := q_cl (by omega)
      have hcl2 : (nI (6 * U + r)).toNatClampNeg = 6 * U + r := q_cl (by omega)
      have e6 : (6 : Int32) * nI U = nI (6 * U) := pk_mul 6 U
      have step : ∀ z0 : Int64, z0 = q_py D w k S r → ∃ J', f_X12_ridesBy_96 n (f_X12_ridesBy_61 n m) I J T (nI S) (nI r) z0 = some (am_u (am_u I 53 52 (I 53 52 + 1)) 53 51 (I 53 51 + 1), J', T) ∧ (∀ i, r ≤ i → i < q_R D → J' 75 (6 * U + i) = q_py D w k S i ∧ J' 74 i = J 74 i + q_py D w k S i) ∧ (∀ a c, ¬ (a = 75 ∧ 6 * U + r ≤ c ∧ c < 6 * U + 6) → ¬ (a = 74 ∧ r ≤ c ∧ c < 6) → J' a c = J a c) := by
        intro z0 hz
        obtain ⟨J', f1, f2, f3⟩ := ih (r + 1) (am_u (am_u J 75 (6 * U + r) z0) 74 r (J 74 r + z0)) (by omega) (by omega) (fun i hi hb => by rw [← hA i hi hb]; unfold am_u; rw [if_neg (by omega), if_neg (by omega)]) (fun hS0 => by rw [← hB hS0]; unfold am_u; rw [if_neg (by omega), if_neg (by omega)])
        unfold f_X12_ridesBy_96
        rw [hu, e6, nI_add]
        simp only [if_pos hix, if_pos hix2, hcl, hcl2]
        rw [nI_1]
        rw [hu] at f1
        refine ⟨J', f1, fun i i1 i2 => ?_, fun a c h1 h2 => ?_⟩
        · by_cases ei : i = r
          · subst ei
            rw [f3 75 (6 * U + i) (by omega) (by omega), f3 74 i (by omega) (by omega), ← hz]
            simp [am_u]
          · obtain ⟨g1, g2⟩ := f2 i (by omega) i2
            rw [g1, g2]
            refine ⟨rfl, ?_⟩
            unfold am_u
            rw [if_neg (by omega), if_neg (by omega)]
        · rw [f3 a c (by omega) (by omega)]
          unfold am_u
          rw [if_neg (by omega), if_neg (by omega)]
      rw [if_neg (nI_ge (by omega) (by omega)), m_has (by omega) (by omega), Option.bind_some]
      by_cases hb : S.testBit r = true
      · have hS0 : S ≠ 0 := fun z => by rw [z, Nat.zero_testBit] at hb; cases hb
        obtain ⟨p1, p2, p3, p4, p5, p6⟩ := q_py_x hD hwo k (S := S) (r := r) (by omega) (by omega) hb
        have hy1 : ¬ zL (q_B D w k S : Nat) = 0 := zL_ne0 (by omega) (by omega)
        rw [if_pos hb, if_neg (by exact q_10), if_pos hix, hB hS0, if_pos hy1, hcl, hA r (by omega) hb]
        exact step _ p2
      · rw [if_neg hb, if_pos rfl]
        exact step 0 (by unfold q_py; rw [if_neg hb])
end QW
section QS
variable {n B : Nat} {w : Nat → Nat → Nat}
theorem m_rides49 {s : q_Sg} (hn : 300 ≤ n) (hs : q_sok B s) (hU : q_lU (q_sL s) < 40) (hwo : q_wok (q_R (q_sD s)) w) {k S : Nat} (hk : k < 100) (hS : S < 2 ^ q_R (q_sD s)) {I : Nat → Nat → Int32} {J : Nat → Nat → Int64} {T : Nat} (hM : q_HM I J s) (hT : T = 54 ∨ T = 55) (hc : 2 ≤ k → q_mc n (q_sD s) w k I) : ∃ I' J' T', f_X12_ridesBy_49 n I J T (nI S) (nI k) = some (I', J', T') ∧ q_HM I' J' (q_nt s w k S) ∧ (T' = 54 ∨ T' = 55) ∧ q_fM I I' J J' := by
  have hD := hs.1.1
  have hR := hD.1.2.1
  have hp := (q_pow2 (q_R (q_sD s)) hR).2
  have main : ∀ (I1 : Nat → Nat → Int32) (J1 : Nat → Nat → Int64) (T1 : Nat), q_HM I1 J1 s → (T1 = 54 ∨ T1 = 55) → q_fM I I1 J J1 → (∀ i, i < q_R (q_sD s) → S.testBit i = true → J1 66 i = zL (q_A (q_sD s) w k S i)) → (S ≠ 0 → J1 53 33 = zL (q_B (q_sD s) w k S : Nat)) → ∃ I' J' T', f_X12_ridesBy_59 n I1 J1 T1 (nI S) = some (I', J', T') ∧ q_HM I' J' (q_nt s w k S) ∧ (T' = 54 ∨ T' = 55) ∧ q_fM I I' J J' := by
    intro I1 J1 T1 hM1 hT1 hf hA hB
    obtain ⟨l1, l2, l3, l4⟩ := hM1.2.2.2.2.2.1
    obtain ⟨J', f1, f2, f3⟩ := m_rides_loop (n := n) (T := T1) hD hwo (k := k) hU hS hM1.1 l2 n 0 J1 (Nat.zero_le _) (by omega) hA hB
    have f1' : f_X12_ridesBy_59 n I1 J1 T1 (nI S) = _ := f1
    rw [f1']
    refine ⟨_, J', T1, rfl, hM1.nl (fun c h => ?_) (fun a c h => ?_) (fun a c h => f3 a c (by omega) (by omega)) _ ⟨?_, ?_, fun r hr => ?_, fun j j1 j2 r hr => ?_⟩, hT1, ⟨fun a c h => ?_, fun a c h => ?_⟩⟩
    · unfold am_u
      rw [if_neg (by omega), if_neg (by omega)]
    · unfold am_u
      rw [if_neg (by omega), if_neg (by omega)]
    · show am_u (am_u I1 53 52 (I1 53 52 + 1)) 53 51 (I1 53 51 + 1) 53 51 = nI (q_lN (q_sL s) + 1)
      rw [← nI_1, ← l1]
      simp [am_u]
    · have em : min 40 (q_lU (q_sL s) + 1) = q_lU (q_sL s) + 1 := by omega
      show am_u (am_u I1 53 52 (I1 53 52 + 1)) 53 51 (I1 53 51 + 1) 53 52 = nI (min 40 (q_lU (q_sL s) + 1))
      rw [em, ← nI_1, ← l2]
      simp [am_u]
    · show J' 74 r = q_lP (q_sL s) r + _
      rw [(f2 r (Nat.zero_le _) hr).2, l3 r hr]
    · have j1' : q_lN (q_sL s) + 1 ≤ j + min 40 (q_lU (q_sL s) + 1) := j1
      have j2' : j < q_lN (q_sL s) + 1 := j2
      have ei : 6 * (j + min 40 (q_lU (q_sL s) + 1) - (q_lN (q_sL s) + 1)) + r = 6 * (j + q_lU (q_sL s) - q_lN (q_sL s)) + r := by omega
      show J' 75 (6 * (j + min 40 (q_lU (q_sL s) + 1) - (q_lN (q_sL s) + 1)) + r) = if j = q_lN (q_sL s) then q_py (q_sD s) w k S r else q_lY (q_sL s) j r
      rw [ei]
      by_cases ej : j = q_lN (q_sL s)
      · rw [if_pos ej, ej, Nat.add_sub_cancel_left]
        exact (f2 r (Nat.zero_le _) hr).1
      · rw [if_neg ej, f3 75 _ (by omega) (by omega)]
        exact l4 j (by omega) (by omega) r hr
    · rw [← hf.1 a c h]
      unfold am_u
      rw [if_neg (by omega), if_neg (by omega)]
    · rw [f3 a c (by omega) (by omega)]
      exact hf.2 a c h
  unfold f_X12_ridesBy_49
  by_cases hS0 : S = 0
  · subst hS0
    rw [if_pos nI_0]
    exact main I J T hM hT ⟨fun _ _ _ => rfl, fun _ _ _ => rfl⟩ (fun i _ hb => by rw [Nat.zero_testBit] at hb; cases hb) (fun z => absurd rfl z)
  · obtain ⟨I1, J1, T1, e1, e2, e3, e4, e5, e6⟩ := m_layShares (n := n) hn hD hM.1 hk hc hwo hS (by omega) (J := J) (T := T) (q_vf_r _) hT
    rw [if_neg (nI_ne0 (by omega) (by omega)), e1, Option.bind_some]
    exact main I1 J1 T1 (hM.vf e2 e6) e3 ⟨fun a c h => e2 a c (by omega), fun a c h => e6 a c (by omega) (by omega)⟩ e4 (fun _ => e5)
theorem m_rides {s : q_Sg} (hn : 300 ≤ n) (hs : q_sok B s) (hwo : q_wok (q_R (q_sD s)) w) {k S : Nat} (hk : k < 100) (hS : S < 2 ^ q_R (q_sD s)) {I : Nat → Nat → Int32} {J : Nat → Nat → Int64} {T : Nat} (hM : q_HM I J s) (hT : T = 54 ∨ T = 55) (hcm : ∀ s0 I0 J0, q_sU s0 = q_sU s → q_sD s0 = q_sD s → q_HM I0 J0 s0 → 2 ≤ k → q_mc n (q_sD s) w k I0) : ∃ I' J' T', f_X12_ridesBy n I J T (nI S) (nI k) = some (I', J', T') ∧ q_HM I' J' (q_nt s w k S) ∧ (T' = 54 ∨ T' = 55) ∧ q_fM I I' J J' := by
  obtain ⟨u1, u2, u3⟩ := hs.2.2.2.2.2.1
  obtain ⟨l1, l2, l3, l4⟩ := hM.2.2.2.2.2.1
  unfold f_X12_ridesBy
  rw [l2]
  by_cases hU : q_lU (q_sL s) = 40
  · rw [hU, if_pos (show nI 40 = 40 from rfl)]
    obtain ⟨J1, f1, f2, f3, f4⟩ := m_shift_loop (n := n) (I := I) (T := T) (nI S) (nI k) n 0 J (by omega) (by omega)
    have f1' : f_X12_ridesBy_11 n n I J T (nI S) (nI k) 0 = _ := f1
    obtain ⟨I1, hI1⟩ : ∃ z, z = am_u I 53 52 (I 53 52 - 1) := ⟨_, rfl⟩
    have hM1 : q_HM I1 J1 (q_nl s (q_lN (q_sL s), 39, q_lP (q_sL s), q_lY (q_sL s))) := by
      refine hM.nl (fun c h => ?_) (fun a c h => ?_) (fun a c h => f4 a c (by omega)) _ ⟨?_, ?_, fun r hr => ?_, fun j j1 j2 r hr => ?_⟩
      · rw [hI1]
        unfold am_u
        rw [if_neg (by omega)]
      · rw [hI1]
        unfold am_u
        rw [if_neg (by omega)]
      · show I1 53 51 = nI (q_lN (q_sL s))
        rw [← l1, hI1]
        simp [am_u]
      · show I1 53 52 = nI 39
        rw [hI1, l2, hU]
        simp only [am_u, and_self, if_true]
        decide +kernel
      · show J1 74 r = q_lP (q_sL s) r
        rw [f4 74 r (by omega), l3 r hr]
      · have j1' : q_lN (q_sL s) ≤ j + 39 := j1
        have j2' : j < q_lN (q_sL s) := j2
        have hR := hs.1.1.1.2.1
        show J1 75 (6 * (j + 39 - q_lN (q_sL s)) + r) = q_lY (q_sL s) j r
        rw [f2 _ (Nat.zero_le _) (by omega), ← l4 j (by omega) j2' r hr, hU]
        congr 1
        omega
    have hs1 : q_sok B (q_nl s (q_lN (q_sL s), 39, q_lP (q_sL s), q_lY (q_sL s))) := by
      obtain ⟨a, b, c, d, e, l, m⟩ := hs
      exact ⟨a, b, c, d, e, ⟨show 39 ≤ 40 by omega, show 39 ≤ q_lN (q_sL s) by omega, u3⟩, m⟩
    obtain ⟨I', J', T', g1, g2, g3, g4⟩ := m_rides49 (n := n) hn hs1 (show 39 < 40 by omega) hwo hk hS hM1 hT (hcm (q_nl s (q_lN (q_sL s), 39, q_lP (q_sL s), q_lY (q_sL s))) I1 J1 rfl rfl hM1)
    rw [f1', ← hI1, g1]
    have es : q_nt (q_nl s (q_lN (q_sL s), 39, q_lP (q_sL s), q_lY (q_sL s))) w k S = q_nt s w k S := by
      have em : min 40 (39 + 1) = min 40 (q_lU (q_sL s) + 1) := by rw [hU]; rfl
      show q_nl s (q_lN (q_sL s) + 1, min 40 (39 + 1), _, _) = q_nl s (q_lN (q_sL s) + 1, min 40 (q_lU (q_sL s) + 1), _, _)
      rw [em]
      rfl
    rw [es] at g2
    exact ⟨I', J', T', rfl, g2, g3, ⟨fun a c h => by rw [g4.1 a c h, hI1]; unfold am_u; rw [if_neg (by omega)], fun a c h => by rw [g4.2 a c h]; exact f4 a c (by omega)⟩⟩
  · rw [if_neg (show ¬ nI (q_lU (q_sL s)) = 40 from fun z => hU ((nI_eq (b := 40) (by omega) (by omega)).mp z))]
    exact m_rides49 hn hs (by omega) hwo hk hS hM hT (hcm _ _ _ rfl rfl hM)
end QS
