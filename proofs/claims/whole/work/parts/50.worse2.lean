/-! ===== worse, both sides ===== -/
section QW
variable {n : Nat} {D : q_Rd} {w : Nat → Nat → Nat}
theorem m_worse_loop {I : Nat → Nat → Int32} {J : Nat → Nat → Int64} {T k : Nat} (hn : 300 ≤ n) (hD : q_ok D) (hR0 : 0 < q_R D) (hwo : q_wok (q_R D) w) (h : q_RM I D) (hv : ∀ r, r < q_R D → J 66 r = zL (q_A D w k (2 ^ q_R D - 1) r)) (hb : J 53 33 = zL (q_B D w k (2 ^ q_R D - 1) : Nat)) (x : Int32) : ∀ (m g c S : Nat), g + S = 2 ^ q_R D → g < m → f_X12_worse_34 n m I J T x (nI c) (nI S) = some (q_wl D w k x g c S, I, J, T) := by
  have hR := hD.1.2.1
  have hp := (q_pow2 (q_R D) hR).2
  have hp0 := Nat.two_pow_pos (q_R D)
  intro m
  induction m with
  | zero => intro g c S _ h; omega
  | succ m ih =>
    intro g c S h1 h2
    rw [f_X12_worse_34, m_everybody hD h, Option.bind_some]
    cases g with
    | zero =>
      rw [if_pos (nI_lt (by omega) (by omega))]
      unfold q_wl
      by_cases hx1 : x = -1
      · rw [if_pos hx1, if_pos hx1]
      · rw [if_neg hx1, if_neg hx1]
    | succ g =>
      have hcl := q_cost_le hD S
      obtain ⟨b1, b2, b3⟩ := q_ex_le hD hwo hR0 k S
      rw [if_neg (nI_nlt (by omega) (by omega)), m_sharesOf hn hD h (by omega) hv, Option.bind_some, m_costOf hn hD h (by omega), Option.bind_some, hb, nI_l (by omega), zL_n, zL_mul]
      unfold f_X12_worse_79
      have e : ((q_cost D S : Int) * (q_B D w k (2 ^ q_R D - 1) : Int)) = ((q_cost D S * q_B D w k (2 ^ q_R D - 1) : Nat) : Int) := (Int.natCast_mul _ _).symm
      have hiff : (0 < lg_cmp (zL (q_ss (q_A D w k (2 ^ q_R D - 1)) S (q_R D))) (zL ((q_cost D S : Int) * (q_B D w k (2 ^ q_R D - 1) : Int)))) ↔ 0 < q_ex D w k S := by
        rw [lg_cmp_gt, e, zL_lt (by omega) (by omega) (by omega) (by omega)]
        unfold q_ex
        rw [e]
        omega
      unfold q_wl
      by_cases hpos : 0 < q_ex D w k S
      · rw [if_pos (hiff.mpr hpos), if_pos hpos]
        by_cases hcx : nI c = x
        · rw [if_pos hcx, if_pos hcx]
        · rw [if_neg hcx, if_neg hcx, nI_1, nI_1]
          exact ih g (c + 1) (S + 1) (by omega) (by omega)
      · rw [if_neg (fun z => hpos (hiff.mp z)), if_neg hpos, nI_1]
        exact ih g c (S + 1) (by omega) (by omega)
end QW
section QS
variable {V : (Nat → Int32) → Int32 → Nat → (Nat → Nat) → Prop} {n B : Nat} {I I2 : Nat → Nat → Int32} {J J2 : Nat → Nat → Int64} {T : Nat} {s : q_Sg} {w : Nat → Nat → Nat → Nat}
theorem q_bc_all : ∀ R, R ≤ 6 → q_bc (2 ^ R - 1) = R := by decide +kernel
theorem i_worse (hn : 300 ≤ n) (hs : q_sok B s) (hX : q_HX V I J s) (hM : q_HM I2 J2 s) (hT : T = 54 ∨ T = 55) (hcx : ∀ k, k < 3 + (q_sU s).1 → q_wc n J T (q_sD s) (w k) (am_u I 27 2 (nI k))) (hcm : ∀ k, 2 ≤ k → k < 3 + (q_sU s).1 → q_mc n (q_sD s) (w k) k (am_u I2 53 0 0)) (hwo : ∀ k, k < 3 + (q_sU s).1 → q_wok (q_R (q_sD s)) (w k)) (x1 x2 : Int32) : ∃ r I' I2' J2' T', f_X11_worse n I J T x1 x2 = some (r, I') ∧ f_X12_worse n I2 J2 T x1 x2 = some (r, I2', J2', T') ∧ q_HX V I' J s ∧ q_HM I2' J2' s ∧ (T' = 54 ∨ T' = 55) ∧ q_fX I I' J J ∧ q_fM I2 I2' J2 J2' := by
  have hD := hs.1.1
  have hW := hD.1.1
  have hR := hD.1.2.1
  have hM0 := (hM.th 0).1
  have hp := (q_pow2 _ hR).2
  have hp0 := Nat.two_pow_pos (q_R (q_sD s))
  have hu1 := hs.2.2.1.1
  have hbc := q_bc_all _ hR
  unfold f_X11_worse f_X12_worse
  rcases g_law (n := n) (J := J) (J2 := J2) (T := T) hs.1 hX.1 hM0 hu1 hX.2.2.1.1 (hM.th 0).2.2.1.1 x1 with ⟨k, l1, l2, l3, l4, l5⟩ | ⟨l4, l5⟩
  · rw [l4, l5, Option.bind_some, Option.bind_some, if_neg q_10, if_neg q_10, l3]
    by_cases hx2 : (-1 : Int32) ≤ x2
    · have hw := hwo k l1
      have h2p : 2 ^ 1 ≤ 2 ^ q_R (q_sD s) := Nat.pow_le_pow_right (by omega) l2
      obtain ⟨I1, e1, e2, e3, e4, e5, e6⟩ := x_weigh (n := n) (J := J) (T := T) hn hD hX.1 (hcx k l1) (f := q_R (q_sD s)) l2 (by omega)
      obtain ⟨I', f1, f2⟩ := x_worse_loop (n := n) (J := J) (T := T) hn hD l2 hw (k := k) (by omega) (f := q_R (q_sD s)) (by omega) x2 n (2 ^ q_R (q_sD s) - 1) 0 1 I1 (by omega) (by omega) e6 e3 e4 e5
      obtain ⟨I3, J3, T3, p1, p2, p3, p4, p5, p6⟩ := m_layShares (n := n) hn hD hM0 (k := k) (by omega) (fun h => hcm k h l1) hw (S := 2 ^ q_R (q_sD s) - 1) (by omega) (by omega) (J := J2) (T := T) (q_vf_r _) hT
      have p7 := m_worse_loop (n := n) (T := T3) hn hD l2 hw (p2.R hM0) (k := k) (fun r hr => p4 r hr (q_all hr)) p5 x2 n (2 ^ q_R (q_sD s) - 1) 0 1 (by omega) (by omega)
      have f1' : f_X11_worse_35 n n I1 J T x2 0 1 = _ := f1
      have p7' : f_X12_worse_34 n n I3 J3 T3 x2 0 1 = _ := p7
      have hf : ∀ a c, ¬ (a = 28 ∨ a = 26 ∨ a = 29 ∨ (a = 19 ∧ c = 3) ∨ (a = 27 ∧ c = 2)) → I' a c = I a c := fun a c h => by rw [f2 a c (by omega)]; exact q_wf2 e2 a c h
      rw [if_pos hx2, if_pos hx2, hX.1.1.2.1, e1, Option.bind_some, f1', m_everybody hD hM0, Option.bind_some, p1, Option.bind_some, p7']
      exact ⟨_, I', I3, J3, T3, rfl, rfl, hX.wf hs.2.2.1 hf, (hM.th 0).vf p2 p6, p3, ⟨fun a c h => hf a c (by omega), fun _ _ _ => rfl⟩, ⟨fun a c h => by rw [p2 a c (by omega)]; unfold am_u; rw [if_neg (by omega)], fun a c h => p6 a c (by omega) (by omega)⟩⟩
    · rw [if_neg hx2, if_neg hx2]
      exact ⟨_, _, _, _, _, rfl, rfl, hX, hM.th _, hT, q_fX.r _ _, q_fM.th _ _ _⟩
  · rw [l4, l5, Option.bind_some, Option.bind_some, if_pos rfl, if_pos rfl]
    exact ⟨_, _, _, _, _, rfl, rfl, hX, hM.th _, hT, q_fX.r _ _, q_fM.th _ _ _⟩
end QS
