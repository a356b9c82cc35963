/-! ===== left: the reference's loop until none goes; the call ===== -/
section QW
variable {n : Nat} {D : q_Rd} {w : Nat → Nat → Nat}
theorem m_left_loop {I0 : Nat → Nat → Int32} {k : Nat} (hn : 300 ≤ n) (hD : q_ok D) (h0 : q_RM I0 D) (hk : k < 100) (hc : 2 ≤ k → q_mc n D w k I0) (hwo : q_wok (q_R D) w) : ∀ (m b S : Nat) (I : Nat → Nat → Int32) (J : Nat → Nat → Int64) (T : Nat), b + 2 ≤ m → q_bc S ≤ b → S < 2 ^ q_R D → q_vf I0 I → (T = 54 ∨ T = 55) → ∃ I' J' T', f_X12_left_22 n m I J T (nI k) (nI S) 1 = some (nI (q_it D w k b S), I', J', T') ∧ q_vf I0 I' ∧ (T' = 54 ∨ T' = 55) ∧ ∀ a c, a ≠ 66 → ¬ (a = 53 ∧ c = 33) → J' a c = J a c := by
  have hR := hD.1.2.1
  have hp := (q_pow2 (q_R D) hR).2
  intro m
  induction m with
  | zero => intro b S I J T h; omega
  | succ m ih =>
    intro b S I J T h1 h2 hS hf hT
    rw [f_X12_left_22, if_neg q_10]
    by_cases hS0 : S = 0
    · subst hS0
      rw [if_pos nI_0, q_it_fix k (q_sv_0 k)]
      exact ⟨I, J, T, rfl, hf, hT, fun _ _ _ _ => rfl⟩
    · have hS1 : 0 < S := Nat.pos_of_ne_zero hS0
      obtain ⟨I1, J1, T1, e1, e2, e3, e4, e5, e6⟩ := m_layShares (n := n) hn hD h0 hk hc hwo hS hS1 (J := J) (T := T) hf hT
      rw [if_neg (nI_ne0 hS1 (by omega)), e1, Option.bind_some]
      have g := m_left_in (n := n) (T := T1) hD hwo hS hS1 (e2.R h0) e4 e5 (k22 := f_X12_left_22 n m) (nI k) n 0 (Nat.zero_le _) (by omega)
      rw [q_sl_sv hR k hS] at g
      have g' : f_X12_left_42 n (f_X12_left_22 n m) n I1 J1 T1 (nI k) (nI S) 0 0 = _ := g
      show ∃ I' J' T', f_X12_left_42 n (f_X12_left_22 n m) n I1 J1 T1 (nI k) (nI S) 0 0 = _ ∧ _
      rw [g']
      have hsv := q_sv_lt (D := D) (w := w) k hS
      by_cases he : q_sv D w k S = S
      · rw [he, if_pos rfl, q_it_fix k he]
        obtain ⟨m2, rfl⟩ : ∃ m2, m = m2 + 1 := ⟨m - 1, by omega⟩
        rw [f_X12_left_22, if_pos rfl]
        exact ⟨I1, J1, T1, rfl, e2, e3, e6⟩
      · rw [if_neg (fun z => he ((nI_eq (by omega) (by omega)).mp z))]
        have hw := q_wk_lt (D := D) (w := w) k S (q_R D) hR
        have hx : 63 ^^^ q_wk D w k S (q_R D) < 64 := Nat.xor_lt_two_pow (n := 6) (by omega) hw
        have hlt : q_bc (q_sv D w k S) < q_bc S := (q_bc_sub S (by omega) _ hx).resolve_left he
        obtain ⟨b', rfl⟩ : ∃ b', b = b' + 1 := ⟨b - 1, by omega⟩
        obtain ⟨I', J', T', f1, f2, f3, f4⟩ := ih b' (q_sv D w k S) I1 J1 T1 (by omega) (by omega) hsv e2 e3
        exact ⟨I', J', T', f1, f2, f3, fun a c z1 z2 => by rw [f4 a c z1 z2, e6 a c z1 z2]⟩
end QW
section QS
variable {V : (Nat → Int32) → Int32 → Nat → (Nat → Nat) → Prop} {n B : Nat} {I I2 : Nat → Nat → Int32} {J J2 : Nat → Nat → Int64} {T : Nat} {s : q_Sg} {w : Nat → Nat → Nat → Nat}
theorem i_left (hn : 300 ≤ n) (hs : q_sok B s) (hX : q_HX V I J s) (hM : q_HM I2 J2 s) (hT : T = 54 ∨ T = 55) (hcx : ∀ k, k < 3 + (q_sU s).1 → q_wc n J T (q_sD s) (w k) (am_u I 27 2 (nI k))) (hcm : ∀ k, 2 ≤ k → k < 3 + (q_sU s).1 → q_mc n (q_sD s) (w k) k (am_u I2 53 0 0)) (hwo : ∀ k, k < 3 + (q_sU s).1 → q_wok (q_R (q_sD s)) (w k)) (x1 : Int32) : ∃ r I' I2' J2' T', f_X11_left n I J T x1 = some (r, I') ∧ f_X12_left n I2 J2 T x1 = some (r, I2', J2', T') ∧ q_HX V I' J s ∧ q_HM I2' J2' s ∧ (T' = 54 ∨ T' = 55) ∧ q_fX I I' J J ∧ q_fM I2 I2' J2 J2' := by
  have hD := hs.1.1
  have hR := hD.1.2.1
  have hM0 := (hM.th 0).1
  have hp := (q_pow2 _ hR).2
  have hp0 := Nat.two_pow_pos (q_R (q_sD s))
  have hu1 := hs.2.2.1.1
  unfold f_X11_left f_X12_left
  rcases g_law (n := n) (J := J) (J2 := J2) (T := T) hs.1 hX.1 hM0 hu1 hX.2.2.1.1 (hM.th 0).2.2.1.1 x1 with ⟨k, l1, l2, l3, l4, l5⟩ | ⟨l4, l5⟩
  · rw [l4, l5, Option.bind_some, Option.bind_some, if_neg q_10, if_neg q_10, l3]
    have hw := hwo k l1
    obtain ⟨I1, e1, e2, e3, e4, e5, e6⟩ := x_weigh (n := n) (J := J) (T := T) hn hD hX.1 (hcx k l1) (f := 1) (Nat.le_refl _) (by omega)
    have e1' : f_X7_weigh n I J T (nI k) 1 = _ := e1
    rw [e1', Option.bind_some, x_everyone hD e6, Option.bind_some]
    obtain ⟨I', f1, f2⟩ := x_left_loop (n := n) (J := J) (T := T) hn hD hw (k := k) (by omega) n 6 0 (2 ^ q_R (q_sD s) - 1) I1 rfl (by omega) (by omega) e6 e3 e4 e5
    have f1' : f_X11_left_29 n n I1 J T (nI (2 ^ q_R (q_sD s) - 1)) 0 = _ := f1
    obtain ⟨I3, J3, T3, p1, p2, p3, p4⟩ := m_left_loop (n := n) hn hD hM0 (k := k) (by omega) (fun h => hcm k h l1) hw n 6 (2 ^ q_R (q_sD s) - 1) (am_u I2 53 0 0) J2 T (by omega) (q_bcx_eq _ (by omega)).2.1 (by omega) (q_vf_r _) hT
    rw [f1', m_everybody hD hM0, Option.bind_some, p1]
    have hf : ∀ a c, ¬ (a = 28 ∨ a = 26 ∨ a = 29 ∨ (a = 19 ∧ c = 3) ∨ (a = 27 ∧ c = 2)) → I' a c = I a c := fun a c h => by rw [f2 a c (by omega)]; exact q_wf2 e2 a c h
    exact ⟨_, I', I3, J3, T3, rfl, rfl, hX.wf hs.2.2.1 hf, (hM.th 0).vf p2 p4, p3, ⟨fun a c h => hf a c (by omega), fun _ _ _ => rfl⟩, ⟨fun a c h => by rw [p2 a c (by omega)]; unfold am_u; rw [if_neg (by omega)], fun a c h => p4 a c (by omega) (by omega)⟩⟩
  · rw [l4, l5, Option.bind_some, Option.bind_some, if_pos rfl, if_pos rfl]
    exact ⟨_, _, _, _, _, rfl, rfl, hX, hM.th _, hT, q_fX.r _ _, q_fM.th _ _ _⟩
end QS
