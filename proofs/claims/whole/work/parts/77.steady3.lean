/-! ===== steady: the call ===== -/
section QS
variable {n B : Nat} {s : q_Sg} {w : Nat → Nat → Nat}
theorem m_js_out (hn : 300 ≤ n) (hs : q_sok B s) (hwo : q_wok (q_R (q_sD s)) w) {k : Nat} (hk : k < 100) (hcm : ∀ I0 J0, q_HM I0 J0 s → 2 ≤ k → q_mc n (q_sD s) w k I0) {u : Nat} {c : Nat → Nat} (hu : u ≤ q_R (q_sD s)) (hcu : ∀ i, i < q_R (q_sD s) → c i < u) : ∀ (m r : Nat) (I : Nat → Nat → Int32) (J : Nat → Nat → Int64) (T : Nat), r ≤ q_R (q_sD s) → q_R (q_sD s) - r < m → q_HM I J s → q_CM I c (q_R (q_sD s)) → I 53 41 = nI k → (T = 54 ∨ T = 55) → ∃ I' J' T', q_vf I I' ∧ (T' = 54 ∨ T' = 55) ∧ (∀ a c, a ≠ 66 → ¬ (a = 53 ∧ c = 33) → J' a c = J a c) ∧ (((∀ l, r ≤ l → l < q_R (q_sD s) → q_sy (q_sD s) w k c l (u + 1) 0 = true) ∧ f_X12_judgeSteady_2 n m I J T (nI u) (nI r) = if (I' 53 43) = (I' 53 42) then some (am_u (am_u I' 53 44 (nI (q_dgt c (q_R (q_sD s))))) 53 43 (I' 53 43 + 1), J', T') else some (am_u I' 53 43 (I' 53 43 + 1), J', T')) ∨ ((∃ l, l < q_R (q_sD s) ∧ ¬ q_sy (q_sD s) w k c l (u + 1) 0 = true) ∧ f_X12_judgeSteady_2 n m I J T (nI u) (nI r) = some (I', J', T'))) := by
  have hD := hs.1.1
  have hR := hD.1.2.1
  intro m
  induction m with
  | zero => intro r I J T _ h; omega
  | succ m ih =>
    intro r I J T hr hm hM hc hl hT
    rw [f_X12_judgeSteady_2, hM.1.1.2.1]
    by_cases e : r = q_R (q_sD s)
    · subst e
      have e2 := m_digits (n := n) (J := J) (T := T) hD hM.1 hc.2 n 0 (Nat.zero_le _) (by omega)
      have e2' : f_X12_digitsNow n I J T = some (nI (q_dgt c (q_R (q_sD s)))) := e2
      refine ⟨I, J, T, q_vf_r _, hT, fun _ _ _ _ => rfl, Or.inl ⟨fun l a b => by omega, ?_⟩⟩
      rw [if_pos (Int32.le_refl _), e2', Option.bind_some]
      unfold f_X12_judgeSteady_128
      rfl
    · have hix2 : ok_ix (nI r) 6 := q_ix (by omega) (by omega)
      have hcl2 : (nI r).toNatClampNeg = r := q_cl (by omega)
      have hcr := hcu r (by omega)
      have hix3 : ok_ix (nI (c r)) 7 := q_ix (by omega) (by omega)
      have hcl3 : (nI (c r)).toNatClampNeg = c r := q_cl (by omega)
      obtain ⟨I1, J1, T1, p1, p2, p3, p4⟩ := m_js_in (n := n) (k := k) hn hs hwo hk hcm (r := r) (u := u) (c := c) (by omega) hu hcu (k2 := f_X12_judgeSteady_2 n m) n (u + 1) 0 I J T rfl (by omega) hM hc hl hT
      rw [if_neg (nI_ge (by omega) (by omega))]
      simp only [if_pos hix2, hcl2, hc.2 r (by omega), if_pos hix3, hcl3, hc.1 (c r) (by omega)]
      rcases p4 with ⟨q1, q2⟩ | ⟨q1, q2⟩
      · have q2' : f_X12_judgeSteady_25 n (f_X12_judgeSteady_2 n m) n I J T (nI u) (nI r) (nI (q_cst c (c r) (q_R (q_sD s)))) 0 = _ := q2
        obtain ⟨I', J', T', f1, f2, f3, f4⟩ := ih (r + 1) I1 J1 T1 (by omega) (by omega) (hM.vf p1 p3) ⟨fun i hi => by rw [p1 70 i (by omega)]; exact hc.1 i hi, fun i hi => by rw [p1 69 i (by omega)]; exact hc.2 i hi⟩ (by rw [p1 53 41 (by omega)]; exact hl) p2
        refine ⟨I', J', T', fun a b h => by rw [f1 a b h]; exact p1 a b h, f2, fun a b h h' => by rw [f3 a b h h']; exact p3 a b h h', ?_⟩
        rw [q2']
        rcases f4 with ⟨g1, g2⟩ | ⟨g1, g2⟩
        · refine Or.inl ⟨fun l a b => ?_, g2⟩
          by_cases el : l = r
          · rw [el]; exact q1
          · exact g1 l (by omega) b
        · exact Or.inr ⟨g1, g2⟩
      · have q2' : f_X12_judgeSteady_25 n (f_X12_judgeSteady_2 n m) n I J T (nI u) (nI r) (nI (q_cst c (c r) (q_R (q_sD s)))) 0 = _ := q2
        exact ⟨I1, J1, T1, p1, p2, p3, Or.inr ⟨⟨r, by omega, q1⟩, q2'⟩⟩
theorem m_judge_s (hn : 300 ≤ n) (hs : q_sok B s) (hwo : q_wok (q_R (q_sD s)) w) {k : Nat} (hk : k < 100) (hcm : ∀ I0 J0, q_HM I0 J0 s → 2 ≤ k → q_mc n (q_sD s) w k I0) {wish : Int32} (c : Nat → Nat) (u : Nat) (I : Nat → Nat → Int32) (J : Nat → Nat → Int64) (T : Nat) (st : Int32 × Int32) (hu : u ≤ q_R (q_sD s)) (hcu : ∀ i, i < q_R (q_sD s) → c i < u) (hM : q_HM I J s) (hc : q_CM I c (q_R (q_sD s))) (hz : I 53 41 = nI k ∧ I 53 42 = wish) (hT : T = 54 ∨ T = 55) (hP : q_P3 st (I 53 37) (I 53 38) (I 53 43) (I 53 44)) : ∃ I' J' T', f_X12_judgeSteady n I J T (nI u) = some (I', J', T') ∧ q_P3 (q_lfs (q_sD s) w k wish c u st) (I' 53 37) (I' 53 38) (I' 53 43) (I' 53 44) ∧ (T' = 54 ∨ T' = 55) ∧ (∀ a b, ¬ q_jx a b → I' a b = I a b) ∧ ∀ a b, a ≠ 66 → ¬ (a = 53 ∧ b = 33) → J' a b = J a b := by
  have hD := hs.1.1
  have hR := hD.1.2.1
  obtain ⟨p1, p2⟩ := hP
  obtain ⟨I1, J1, T1, e1, e2, e3, e4⟩ := m_js_out (n := n) (k := k) hn hs hwo hk hcm (u := u) (c := c) hu hcu n 0 I J T (Nat.zero_le _) (by omega) hM hc hz.1 hT
  have hjx : ∀ a b, ¬ q_jx a b → I1 a b = I a b := fun a b h => e1 a b (fun z => h (by unfold q_jx; omega))
  have e43 : I1 53 43 = st.1 := by rw [e1 53 43 (by omega)]; exact p1
  have e44 : I1 53 44 = st.2 := by rw [e1 53 44 (by omega)]; exact p2
  have e42 : I1 53 42 = wish := by rw [e1 53 42 (by omega)]; exact hz.2
  unfold q_lfs
  rcases e4 with ⟨g1, g2⟩ | ⟨⟨l, l1, l2⟩, g2⟩
  · have hs1 : q_std (q_sD s) w k c u = true := q_std_iff.mpr (fun l hl => g1 l (Nat.zero_le _) hl)
    have g2' : f_X12_judgeSteady n I J T (nI u) = _ := g2
    rw [if_pos hs1, g2', e43, e42]
    by_cases hw : st.1 = wish
    · rw [if_pos hw, if_pos hw]
      refine ⟨_, J1, T1, rfl, ⟨?_, ?_⟩, e2, fun a b h => ?_, e3⟩
      · simp [am_u]
      · simp [am_u]
      · rw [← hjx a b h]
        unfold q_jx at h
        unfold am_u
        rw [if_neg (by omega), if_neg (by omega)]
    · rw [if_neg hw, if_neg hw]
      refine ⟨_, J1, T1, rfl, ⟨?_, ?_⟩, e2, fun a b h => ?_, e3⟩
      · simp [am_u]
      · rw [← e44]
        simp [am_u]
      · rw [← hjx a b h]
        unfold q_jx at h
        unfold am_u
        rw [if_neg (by omega)]
  · have hs1 : ¬ q_std (q_sD s) w k c u = true := fun z => l2 (q_std_iff.mp z l l1)
    have g2' : f_X12_judgeSteady n I J T (nI u) = _ := g2
    rw [if_neg hs1, g2']
    exact ⟨I1, J1, T1, rfl, ⟨e43, e44⟩, e2, hjx, e3⟩
end QS
section QS
variable {V : (Nat → Int32) → Int32 → Nat → (Nat → Nat) → Prop} {n B : Nat} {I I2 : Nat → Nat → Int32} {J J2 : Nat → Nat → Int64} {T : Nat} {s : q_Sg} {w : Nat → Nat → Nat → Nat}
theorem i_steady (hn : 300 ≤ n) (hs : q_sok B s) (hX : q_HX V I J s) (hM : q_HM I2 J2 s) (hT : T = 54 ∨ T = 55) (hcx : ∀ k, k < 3 + (q_sU s).1 → q_wc n J T (q_sD s) (w k) (am_u I 27 2 (nI k))) (hcm : ∀ k, k < 3 + (q_sU s).1 → ∀ I0 J0, q_HM I0 J0 s → 2 ≤ k → q_mc n (q_sD s) (w k) k I0) (hwo : ∀ k, k < 3 + (q_sU s).1 → q_wok (q_R (q_sD s)) (w k)) (x1 x2 : Int32) : ∃ r I' J' I2' J2' T', f_X11_steady n I J T x1 x2 = some (r, I', J') ∧ f_X12_steady n I2 J2 T x1 x2 = some (r, I2', J2', T') ∧ q_HX V I' J' s ∧ q_HM I2' J2' s ∧ (T' = 54 ∨ T' = 55) ∧ q_fX I I' J J' ∧ q_fM I2 I2' J2 J2' := by
  have hD := hs.1.1
  have hR := hD.1.2.1
  have hM0 := (hM.th 0).1
  have hp := (q_pow2 _ hR).2
  have hu1 := hs.2.2.1.1
  unfold f_X11_steady f_X12_steady
  rcases g_law (n := n) (J := J) (J2 := J2) (T := T) hs.1 hX.1 hM0 hu1 hX.2.2.1.1 (hM.th 0).2.2.1.1 x1 with ⟨k, l1, l2, l3, l4, l5⟩ | ⟨l4, l5⟩
  · rw [l4, l5, Option.bind_some, Option.bind_some, if_neg q_10, if_neg q_10, l3]
    by_cases hx2 : (-1 : Int32) ≤ x2
    · have hw := hwo k l1
      have hp1 : 0 < 2 ^ q_R (q_sD s) := Nat.two_pow_pos _
      obtain ⟨I1, e1, e2, e3, e4, e5, e6⟩ := x_weigh (n := n) (J := J) (T := T) hn hD hX.1 (hcx k l1) (f := 1) (Nat.le_refl _) (by omega)
      have e1' : f_X7_weigh n I J T (nI k) 1 = some I1 := e1
      obtain ⟨I3, J3, r1, r2, r3, r4, r5, r6⟩ := x_reckon_out (n := n) (T := T) hn hD hw (k := k) (by omega) n 1 I1 J (by omega) (by omega) (by omega) e6 e3 e4 e5
      have r1' : f_X6_reckonShares n I1 J T = some (I3, J3) := r1
      have hf3 : ∀ a c, ¬ (a = 28 ∨ a = 26 ∨ a = 29 ∨ (a = 19 ∧ c = 3) ∨ (a = 27 ∧ c = 2)) → I3 a c = I a c := fun a c h => by rw [r2 a c (by omega)]; exact q_wf2 e2 a c h
      have hX3 : q_HX V I3 J3 s := hX.of hs.2.2.1 (fun a c h => hf3 a c (by omega)) (fun a c h => hf3 a c (by omega)) (fun a c h => r6 a c (by omega) (by omega))
      obtain ⟨I0, hI0⟩ : ∃ z, z = am_u (am_u (am_u (am_u I3 31 7 x2) 31 10 0) 31 11 (-1)) 31 6 1 := ⟨_, rfl⟩
      have hI0f : ∀ a b, a ≠ 31 → I0 a b = I3 a b := fun a b h => by
        rw [hI0]
        unfold am_u
        rw [if_neg (by omega), if_neg (by omega), if_neg (by omega), if_neg (by omega)]
      have hx1 : q_RX I0 (q_sD s) := hX3.1.of3 (fun a b _ _ => hI0f a b (by omega))
      obtain ⟨I', f1, f2, f3⟩ := x_seatw (n := n) (J := J3) (T := T) hn hD (q_lfs (q_sD s) (w k) k x2) q_P3 (fun I => I 31 6 = 1 ∧ I 31 7 = x2) (fun I I' h f => ⟨by rw [f 31 6 (by omega) (by omega) (by omega)]; exact h.1, by rw [f 31 7 (by omega) (by omega) (by omega)]; exact h.2⟩) (fun c u I st a1 a2 a3 a4 a5 a6 => x_judge_s hn hD hw (fun S s1 s2 => r3 S (by omega) s2) c u I st a1 a2 a3 a4 a5 a6) (q_R (q_sD s)) n 0 (fun _ => 0) 0 I0 (0, -1) (by omega) (by omega) (Nat.le_refl _) (fun i hi => by omega) hx1 (q_CX_0 hX3 hI0f _) ⟨by rw [hI0]; simp [am_u], by rw [hI0]; simp [am_u]⟩ ⟨by rw [hI0]; simp [am_u], by rw [hI0]; simp [am_u]⟩
      have f1' : f_X6_seat n I0 J3 T 0 0 0 = some I' := f1
      have hX' : q_HX V I' J3 s := hX3.of hs.2.2.1 (fun a c h => by rw [f3 a c (by omega)]; exact hI0f a c (by omega)) (fun a c h => by rw [f3 a c (by omega)]; exact hI0f a c (by omega)) (fun _ _ _ => rfl)
      have hfX : q_fX I I' J J3 := ⟨fun a c h => by rw [f3 a c (by omega), hI0f a c (by omega)]; exact hf3 a c (by omega), fun a c h => r6 a c (by omega) (by omega)⟩
      obtain ⟨I4, b1, b2, b3⟩ := m_begin (n := n) (J := J2) (T := T) hn (am_u I2 53 0 0)
      obtain ⟨I5, hI5⟩ : ∃ z, z = am_u (am_u (am_u (am_u I4 53 41 (nI k)) 53 42 x2) 53 43 0) 53 44 (-1) := ⟨_, rfl⟩
      have hI5f : ∀ a b, a ≠ 70 → ¬ (a = 53 ∧ (b = 0 ∨ b = 41 ∨ b = 42 ∨ b = 43 ∨ b = 44)) → I5 a b = I2 a b := fun a b h h' => by
        rw [hI5]
        unfold am_u
        rw [if_neg (by omega), if_neg (by omega), if_neg (by omega), if_neg (by omega), b3 a b h]
        unfold am_u
        rw [if_neg (by omega)]
      have hM5 : q_HM I5 J2 s := hM.of (fun c h => hI5f 53 c (by omega) (by omega)) (fun a c h => hI5f a c (by omega) (by omega)) (fun _ _ _ => rfl)
      obtain ⟨I6, J6, T6, h1, h2, h3, h4, h5, h6⟩ := m_goC (n := n) hn hs (q_lfs (q_sD s) (w k) k x2) q_P3 (fun I => I 53 41 = nI k ∧ I 53 42 = x2) 1 (fun I I' h f => ⟨by rw [f 41 (fun z => by unfold q_jx at z; omega)]; exact h.1, by rw [f 42 (fun z => by unfold q_jx at z; omega)]; exact h.2⟩) (fun c u I J T st a1 a2 a3 a4 a5 a6 a7 => by
          obtain ⟨I', J', T', c1, c2, c3, c4, c5⟩ := m_judge_s (n := n) hn hs hw (k := k) (by omega) (hcm k l1) c u I J T st a1 a2 a3 a4 a5 a6 a7
          refine ⟨I', J', T', ?_, c2, c3, c4, c5⟩
          rw [if_neg q_10, c1, Option.bind_some]) (q_R (q_sD s)) n 0 (fun _ => 0) 0 I5 J2 T (0, -1) (by omega) (by omega) (Nat.le_refl _) (fun i hi => by omega) hM5 ⟨fun j hj => by
            have : I5 70 j = 0 := by
              rw [hI5]
              unfold am_u
              rw [if_neg (by omega), if_neg (by omega), if_neg (by omega), if_neg (by omega)]
              exact b2 j hj
            rw [this]
            rfl, fun i hi => by omega⟩ ⟨by rw [hI5]; simp [am_u], by rw [hI5]; simp [am_u]⟩ hT ⟨by rw [hI5]; simp [am_u], by rw [hI5]; simp [am_u]⟩
      have h1' : f_X12_goCoaches n I5 J2 T 0 0 1 = some (I6, J6, T6) := h1
      have hM6 : q_HM I6 J6 s := hM5.of (fun c h => h4 53 c (by omega) (fun z => by unfold q_jx at z; omega)) (fun a c h => h4 a c (by omega) (fun z => by unfold q_jx at z; omega)) (fun a c h => h6 a c (by omega) (by omega))
      have hfM : q_fM I2 I6 J2 J6 := ⟨fun a c h => by rw [h4 a c (by omega) (fun z => by unfold q_jx at z; omega)]; exact hI5f a c (by omega) (by omega), fun a c h => h6 a c (by omega) (by omega)⟩
      unfold f_X6_searchSteady
      rw [if_pos hx2, if_pos hx2, e1', Option.bind_some, r1', Option.bind_some]
      simp only []
      rw [← hI0, f1', Option.bind_some, Option.bind_some, b1, Option.bind_some, ← hI5, h1', Option.bind_some, f2.1, f2.2]
      simp only [h2.1, h2.2]
      by_cases h0 : x2 = -1
      · rw [if_pos h0, if_pos h0]
        exact ⟨_, I', J3, I6, J6, T6, rfl, rfl, hX', hM6, h3, hfX, hfM⟩
      · rw [if_neg h0, if_neg h0]
        exact ⟨_, I', J3, I6, J6, T6, rfl, rfl, hX', hM6, h3, hfX, hfM⟩
    · rw [if_neg hx2, if_neg hx2]
      exact ⟨_, _, _, _, _, _, rfl, rfl, hX, hM.th _, hT, q_fX.r _ _, q_fM.th _ _ _⟩
  · rw [l4, l5, Option.bind_some, Option.bind_some, if_pos rfl, if_pos rfl]
    exact ⟨_, _, _, _, _, _, rfl, rfl, hX, hM.th _, hT, q_fX.r _ _, q_fM.th _ _ _⟩
end QS
