/-! ===== complaint, both sides ===== -/
section QW
variable {n : Nat} {D : q_Rd} {w : Nat → Nat → Nat}
/-- the set of the worst complaint, from S on, g sets left -/
def q_cb (D : q_Rd) (w : Nat → Nat → Nat) (k : Nat) : Nat → Nat → Nat → Nat
  | 0, b, _ => b
  | g + 1, b, S => if q_ex D w k b < q_ex D w k S then q_cb D w k g S (S + 1) else q_cb D w k g b (S + 1)
theorem q_cb_lt (k : Nat) : ∀ g b S, b < S → q_cb D w k g b S < S + g := by
  intro g
  induction g with
  | zero => intro b S h; exact h
  | succ g ih =>
    intro b S h
    unfold q_cb
    split
    · have := ih S (S + 1) (by omega); omega
    · have := ih b (S + 1) (by omega); omega
theorem x_complaint_loop {J : Nat → Nat → Int64} {T k f : Nat} (hn : 300 ≤ n) (hD : q_ok D) (hR0 : 0 < q_R D) (hwo : q_wok (q_R D) w) (hk : k < 100) (hf : f ≤ q_bc (2 ^ q_R D - 1)) {x : Int32} (hx : x = 0 ∨ x = 1 ∨ x = 2) : ∀ (m g b S : Nat) (I : Nat → Nat → Int32), g + S = 2 ^ q_R D - 1 → g < m → b < S → q_RX I D → q_cc I D → q_WX I (q_R D) f w → I 27 2 = nI k → ∃ I', f_X11_complaint_62 n m I J T x (nI b) (zL (q_K k (2 ^ q_R D - 1) * q_ex D w k b)) (nI S) = some (if x = 0 then (nI (q_cb D w k g b S)).toInt64 else zL (q_pt (q_ex D w k (q_cb D w k g b S)) (q_B D w k (2 ^ q_R D - 1) : Nat) (decide (x = 1))), I') ∧ ∀ y z, y ≠ 28 → I' y z = I y z := by
  have hR := hD.1.2.1
  have hp := (q_pow2 (q_R D) hR).2
  have hp0 := Nat.two_pow_pos (q_R D)
  have h2p : 2 ^ 1 ≤ 2 ^ q_R D := Nat.pow_le_pow_right (by omega) hR0
  have hK := q_K_le k (S := 2 ^ q_R D - 1) (by omega)
  have hB := q_B_le hD hwo k (S := 2 ^ q_R D - 1) (by omega) (by omega)
  have a5 := Nat.mul_le_mul hK.2 hB.2
  have a6 := Nat.mul_pos hK.1 hB.1
  have hex : ∀ S, (q_K k (2 ^ q_R D - 1) * q_ex D w k S : Int).natAbs ≤ 2 ^ 54 := fun S => by
    have h1 := (q_ex_le hD hwo hR0 k S).2.1
    have h2 := Nat.mul_le_mul hK.2 h1
    rw [Int.natAbs_mul, Int.natAbs_natCast]
    omega
  intro m
  induction m with
  | zero => intro g b S I _ h; omega
  | succ m ih =>
    intro g b S I h1 h2 h3 hx1 hc hw hl
    rw [f_X11_complaint_62, x_everyone hD hx1, Option.bind_some]
    cases g with
    | zero =>
      rw [if_pos (nI_le (by omega) (by omega))]
      unfold q_cb
      by_cases hx0 : x = 0
      · rw [if_pos hx0, if_pos hx0]
        exact ⟨I, rfl, fun _ _ _ => rfl⟩
      · rw [if_neg hx0, if_neg hx0, Option.bind_some, x_below hn hD hx1 hw hwo hk hl (S := 2 ^ q_R D - 1) (by omega) hf, Option.bind_some]
        have hpt : ∀ y, q_pt (q_K k (2 ^ q_R D - 1) * q_ex D w k b) ((q_K k (2 ^ q_R D - 1) * q_B D w k (2 ^ q_R D - 1) : Nat) : Int) y = q_pt (q_ex D w k b) (q_B D w k (2 ^ q_R D - 1) : Nat) y := fun y => by
          rw [Int.natCast_mul]
          exact q_pt_mul (by omega) _ _ y
        have hb := hex b
        have hpl : ∀ y : Int32, f_X11_plain n I J T (zL (q_K k (2 ^ q_R D - 1) * q_ex D w k b)) (zL ((q_K k (2 ^ q_R D - 1) * q_B D w k (2 ^ q_R D - 1) : Nat) : Int)) y = some (zL (q_pt (q_ex D w k b) (q_B D w k (2 ^ q_R D - 1) : Nat) (decide (¬ y = 0)))) := fun y => by
          rw [x_plain hn (by omega) (by omega) (by omega) y, hpt]
        unfold f_X11_complaint_141
        by_cases hxa : x = 1
        · rw [if_pos hxa, hpl, Option.bind_some, decide_eq_true hxa]
          exact ⟨I, rfl, fun _ _ _ => rfl⟩
        · rw [if_neg hxa, hpl, Option.bind_some, decide_eq_false hxa]
          exact ⟨I, rfl, fun _ _ _ => rfl⟩
    | succ g =>
      obtain ⟨I1, e1, e2, e3, e4⟩ := x_excess (n := n) (J := J) (T := T) hn hD hwo hk (S := S) (by omega) hf hx1 hc hw hl
      have hw1 : q_WX I1 (q_R D) f w := fun p p1 p2 i hi => by rw [e4 29 _ (by omega)]; exact hw p p1 p2 i hi
      have hl1 : I1 27 2 = nI k := by rw [e4 27 _ (by omega)]; exact hl
      have hb := hex b
      have hS := hex S
      have hiff : (lg_cmp (zL (q_K k (2 ^ q_R D - 1) * q_ex D w k S)) (zL (q_K k (2 ^ q_R D - 1) * q_ex D w k b)) ≤ 0) ↔ ¬ q_ex D w k b < q_ex D w k S := by
        rw [lg_cmp_le, zL_le (by omega) (by omega) (by omega) (by omega), Int.mul_le_mul_left (show (0 : Int) < q_K k (2 ^ q_R D - 1) by omega)]
        omega
      rw [if_neg (nI_ge (by omega) (by omega)), e1, Option.bind_some]
      unfold f_X11_complaint_100 q_cb
      rw [nI_1]
      by_cases hlt : q_ex D w k b < q_ex D w k S
      · rw [if_neg (fun z => hiff.mp z hlt), if_pos hlt]
        obtain ⟨I', f1, f2⟩ := ih g S (S + 1) I1 (by omega) (by omega) (by omega) e2 e3 hw1 hl1
        exact ⟨I', f1, fun y z h => by rw [f2 y z h, e4 y z h]⟩
      · rw [if_pos (hiff.mpr hlt), if_neg hlt]
        obtain ⟨I', f1, f2⟩ := ih g b (S + 1) I1 (by omega) (by omega) (by omega) e2 e3 hw1 hl1
        exact ⟨I', f1, fun y z h => by rw [f2 y z h, e4 y z h]⟩
theorem m_complaint_loop {I : Nat → Nat → Int32} {J : Nat → Nat → Int64} {T k : Nat} (hn : 300 ≤ n) (hD : q_ok D) (hR0 : 0 < q_R D) (hwo : q_wok (q_R D) w) (h : q_RM I D) (hv : ∀ r, r < q_R D → J 66 r = zL (q_A D w k (2 ^ q_R D - 1) r)) (hb : J 53 33 = zL (q_B D w k (2 ^ q_R D - 1) : Nat)) {x : Int32} (hx : x = 0 ∨ x = 1 ∨ x = 2) : ∀ (m g b S : Nat), g + S = 2 ^ q_R D - 1 → g < m → 0 < b → b < S → f_X12_complaint_54 n m I J T x (nI b) (zL (q_ex D w k b)) (nI S) = some (if x = 0 then (nI (q_cb D w k g b S)).toInt64 else zL (q_pt (q_ex D w k (q_cb D w k g b S)) (q_B D w k (2 ^ q_R D - 1) : Nat) (decide (x = 1))), I, J, T) := by
  have hR := hD.1.2.1
  have hp := (q_pow2 (q_R D) hR).2
  have hp0 := Nat.two_pow_pos (q_R D)
  have h2p : 2 ^ 1 ≤ 2 ^ q_R D := Nat.pow_le_pow_right (by omega) hR0
  have hB := q_B_le hD hwo k (S := 2 ^ q_R D - 1) (by omega) (by omega)
  intro m
  induction m with
  | zero => intro g b S _ h; omega
  | succ m ih =>
    intro g b S h1 h2 h3 h4
    have hxb := (q_ex_le hD hwo hR0 k b).2.1
    rw [f_X12_complaint_54, m_everybody hD h, Option.bind_some]
    cases g with
    | zero =>
      rw [if_pos (nI_le (by omega) (by omega))]
      unfold q_cb
      by_cases hx0 : x = 0
      · rw [if_pos hx0, if_pos hx0]
      · have hdx : decide (x - 1 = 0) = decide (x = 1) := by
          rcases hx with rfl | rfl | rfl
          · exact absurd rfl hx0
          · decide +kernel
          · decide +kernel
        rw [if_neg hx0, if_neg hx0, hb, m_partOf hn (by omega) (by omega) (by omega), Option.bind_some, hdx]
    | succ g =>
      obtain ⟨b1, b2, b3⟩ := q_ex_le hD hwo hR0 k S
      have e : ((q_cost D S : Int) * (q_B D w k (2 ^ q_R D - 1) : Int)) = ((q_cost D S * q_B D w k (2 ^ q_R D - 1) : Nat) : Int) := (Int.natCast_mul _ _).symm
      have hcl := q_cost_le hD S
      have hee : zL (q_ss (q_A D w k (2 ^ q_R D - 1)) S (q_R D)) - zL ((q_cost D S : Int) * (q_B D w k (2 ^ q_R D - 1) : Int)) = zL (q_ex D w k S) := zL_sub _ _
      have hiff : (0 < lg_cmp (zL (q_ex D w k S)) (zL (q_ex D w k b))) ↔ q_ex D w k b < q_ex D w k S := by
        rw [lg_cmp_gt, zL_lt (by omega) (by omega) (by omega) (by omega)]
      rw [if_neg (nI_ge (by omega) (by omega)), m_sharesOf hn hD h (by omega) hv, Option.bind_some, m_costOf hn hD h (by omega), Option.bind_some, hb, nI_l (by omega), zL_n, zL_mul, hee, if_neg (show ¬ nI b ≤ 0 from nI_nle (by omega) (by omega))]
      unfold f_X12_complaint_99 f_X12_complaint_106 q_cb
      rw [nI_1]
      by_cases hlt : q_ex D w k b < q_ex D w k S
      · rw [if_pos (hiff.mpr hlt), if_pos hlt]
        exact ih g S (S + 1) (by omega) (by omega) (by omega) (by omega)
      · rw [if_neg (fun z => hlt (hiff.mp z)), if_neg hlt]
        exact ih g b (S + 1) (by omega) (by omega) h3 (by omega)
theorem m_complaint_1 {I : Nat → Nat → Int32} {J : Nat → Nat → Int64} {T k : Nat} (hn : 300 ≤ n) (hD : q_ok D) (hR0 : 2 ≤ q_R D) (hwo : q_wok (q_R D) w) (h : q_RM I D) (hv : ∀ r, r < q_R D → J 66 r = zL (q_A D w k (2 ^ q_R D - 1) r)) (hb : J 53 33 = zL (q_B D w k (2 ^ q_R D - 1) : Nat)) {x : Int32} (hx : x = 0 ∨ x = 1 ∨ x = 2) : f_X12_complaint_54 n n I J T x 0 0 1 = some (if x = 0 then (nI (q_cb D w k (2 ^ q_R D - 3) 1 2)).toInt64 else zL (q_pt (q_ex D w k (q_cb D w k (2 ^ q_R D - 3) 1 2)) (q_B D w k (2 ^ q_R D - 1) : Nat) (decide (x = 1))), I, J, T) := by
  have hR := hD.1.2.1
  have hp := (q_pow2 (q_R D) hR).2
  have h2p : 2 ^ 2 ≤ 2 ^ q_R D := Nat.pow_le_pow_right (by omega) hR0
  obtain ⟨m, hm⟩ : ∃ m, n = m + 1 := ⟨n - 1, by omega⟩
  have hcl := q_cost_le hD 1
  have hee : zL (q_ss (q_A D w k (2 ^ q_R D - 1)) 1 (q_R D)) - zL ((q_cost D 1 : Int) * (q_B D w k (2 ^ q_R D - 1) : Int)) = zL (q_ex D w k 1) := zL_sub _ _
  have g := m_complaint_loop (n := n) (T := T) hn hD (by omega) hwo h hv hb hx m (2 ^ q_R D - 3) 1 2 (by omega) (by omega) (by omega) (by omega)
  have e1 : f_X12_complaint_54 n n I J T x 0 0 1 = f_X12_complaint_54 n (m + 1) I J T x 0 0 (nI 1) := by rw [← hm]; rfl
  rw [e1, f_X12_complaint_54, m_everybody hD h, Option.bind_some, if_neg (nI_ge (by omega) (by omega)), m_sharesOf hn hD h (by omega) hv, Option.bind_some, m_costOf hn hD h (by omega), Option.bind_some, hb, nI_l (by omega), zL_n, zL_mul, hee, if_pos (show (0 : Int32) ≤ 0 from Int32.le_refl _)]
  unfold f_X12_complaint_99 f_X12_complaint_106
  rw [nI_1]
  exact g
end QW
section QS
variable {V : (Nat → Int32) → Int32 → Nat → (Nat → Nat) → Prop} {n B : Nat} {I I2 : Nat → Nat → Int32} {J J2 : Nat → Nat → Int64} {T : Nat} {s : q_Sg} {w : Nat → Nat → Nat → Nat}
theorem i_complaint (hn : 300 ≤ n) (hs : q_sok B s) (hX : q_HX V I J s) (hM : q_HM I2 J2 s) (hT : T = 54 ∨ T = 55) (hcx : ∀ k, k < 3 + (q_sU s).1 → q_wc n J T (q_sD s) (w k) (am_u I 27 2 (nI k))) (hcm : ∀ k, 2 ≤ k → k < 3 + (q_sU s).1 → q_mc n (q_sD s) (w k) k (am_u I2 53 0 0)) (hwo : ∀ k, k < 3 + (q_sU s).1 → q_wok (q_R (q_sD s)) (w k)) (x1 x2 : Int32) : ∃ r I' I2' J2' T', f_X11_complaint n I J T x1 x2 = some (r, I') ∧ f_X12_complaint n I2 J2 T x1 x2 = some (r, I2', J2', T') ∧ q_HX V I' J s ∧ q_HM I2' J2' s ∧ (T' = 54 ∨ T' = 55) ∧ q_fX I I' J J ∧ q_fM I2 I2' J2 J2' := by
  have hD := hs.1.1
  have hR := hD.1.2.1
  have hM0 := (hM.th 0).1
  have hp := (q_pow2 _ hR).2
  have hu1 := hs.2.2.1.1
  have hbc := q_bc_all _ hR
  have hr2 : I2 53 27 = nI (q_R (q_sD s)) := hM.1.1.2.1
  unfold f_X11_complaint f_X12_complaint
  rcases g_law (n := n) (J := J) (J2 := J2) (T := T) hs.1 hX.1 hM0 hu1 hX.2.2.1.1 (hM.th 0).2.2.1.1 x1 with ⟨k, l1, l2, l3, l4, l5⟩ | ⟨l4, l5⟩
  · rw [l4, l5, Option.bind_some, Option.bind_some, if_neg q_10, if_neg q_10, hX.1.1.2.1, hr2]
    rcases g_on x2 0 2 (A := 0) (B := 2) (A' := 0) (B' := 2) rfl rfl rfl rfl (by omega) (by omega) with ⟨v, v1, v2, v3, v4, v5⟩ | ⟨v4, v5⟩
    · rw [v4, v5, Option.bind_some, Option.bind_some, if_neg q_10, if_neg q_10]
      by_cases hr1 : q_R (q_sD s) = 1
      · rw [hr1, if_pos (show nI 1 < 2 by decide +kernel), if_pos (show nI 1 = 1 from rfl)]
        exact ⟨_, _, _, _, _, rfl, rfl, hX, hM.th _, hT, q_fX.r _ _, q_fM.th _ _ _⟩
      · have hw := hwo k l1
        have h2p : 2 ^ 2 ≤ 2 ^ q_R (q_sD s) := Nat.pow_le_pow_right (by omega) (by omega)
        have hx : x2 = 0 ∨ x2 = 1 ∨ x2 = 2 := by
          rw [v3]
          rcases (show v = 0 ∨ v = 1 ∨ v = 2 by omega) with rfl | rfl | rfl
          · exact Or.inl rfl
          · exact Or.inr (Or.inl rfl)
          · exact Or.inr (Or.inr rfl)
        rw [if_neg (show ¬ nI (q_R (q_sD s)) < 2 from nI_nlt (b := 2) (by omega) (by omega)), if_neg (show ¬ nI (q_R (q_sD s)) = 1 from fun z => hr1 ((nI_eq (b := 1) (by omega) (by omega)).mp z)), l3]
        obtain ⟨I1, e1, e2, e3, e4, e5, e6⟩ := x_weigh (n := n) (J := J) (T := T) hn hD hX.1 (hcx k l1) (f := q_R (q_sD s)) l2 (by omega)
        obtain ⟨I4, c1, c2, c3, c4⟩ := x_excess (n := n) (J := J) (T := T) hn hD hw (k := k) (by omega) (S := 1) (by omega) (f := q_R (q_sD s)) (by omega) e6 e3 e4 e5
        have c1' : f_X7_excess n I1 J T 1 = _ := c1
        have hw1 : q_WX I4 (q_R (q_sD s)) (q_R (q_sD s)) (w k) := fun p p1 p2 i hi => by rw [c4 29 _ (by omega)]; exact e4 p p1 p2 i hi
        obtain ⟨I', f1, f2⟩ := x_complaint_loop (n := n) (J := J) (T := T) hn hD l2 hw (k := k) (by omega) (f := q_R (q_sD s)) (by omega) hx n (2 ^ q_R (q_sD s) - 3) 1 2 I4 (by omega) (by omega) (by omega) c2 c3 hw1 (by rw [c4 27 _ (by omega)]; exact e5)
        obtain ⟨I3, J3, T3, p1, p2, p3, p4, p5, p6⟩ := m_layShares (n := n) hn hD hM0 (k := k) (by omega) (fun h => hcm k h l1) hw (S := 2 ^ q_R (q_sD s) - 1) (by omega) (by omega) (J := J2) (T := T) (q_vf_r _) hT
        have p7 := m_complaint_1 (n := n) (T := T3) hn hD (by omega) hw (p2.R hM0) (k := k) (fun r hr => p4 r hr (q_all hr)) p5 hx
        have f1' : f_X11_complaint_62 n n I4 J T x2 1 (zL (q_K k (2 ^ q_R (q_sD s) - 1) * q_ex (q_sD s) (w k) k 1)) 2 = _ := f1
        have hf : ∀ a c, ¬ (a = 28 ∨ a = 26 ∨ a = 29 ∨ (a = 19 ∧ c = 3) ∨ (a = 27 ∧ c = 2)) → I' a c = I a c := fun a c h => by rw [f2 a c (by omega), c4 a c (by omega)]; exact q_wf2 e2 a c h
        rw [e1, Option.bind_some, c1', Option.bind_some]
        simp only [f1']
        rw [m_everybody hD hM0, Option.bind_some, p1, Option.bind_some, p7]
        exact ⟨_, I', I3, J3, T3, rfl, rfl, hX.wf hs.2.2.1 hf, (hM.th 0).vf p2 p6, p3, ⟨fun a c h => hf a c (by omega), fun _ _ _ => rfl⟩, ⟨fun a c h => by rw [p2 a c (by omega)]; unfold am_u; rw [if_neg (by omega)], fun a c h => p6 a c (by omega) (by omega)⟩⟩
    · rw [v4, v5, Option.bind_some, Option.bind_some, if_pos rfl, if_pos rfl]
      by_cases hr1 : nI (q_R (q_sD s)) < 2
      · rw [if_pos hr1]
        exact ⟨_, _, _, _, _, rfl, rfl, hX, hM.th _, hT, q_fX.r _ _, q_fM.th _ _ _⟩
      · rw [if_neg hr1]
        exact ⟨_, _, _, _, _, rfl, rfl, hX, hM.th _, hT, q_fX.r _ _, q_fM.th _ _ _⟩
  · rw [l4, l5, Option.bind_some, Option.bind_some, if_pos rfl, if_pos rfl]
    exact ⟨_, _, _, _, _, rfl, rfl, hX, hM.th _, hT, q_fX.r _ _, q_fM.th _ _ _⟩
end QS
