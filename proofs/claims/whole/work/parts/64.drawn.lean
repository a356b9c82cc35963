/-! ===== drawn ===== -/
def q_d1 (R : Nat) (y : Int64) : Nat := (q_dg q_db q_dy R 0 0 y).1
def q_d2 (R : Nat) (y : Int64) : Int64 := (q_dg q_db q_dy R 0 0 y).2
/-- the state after g nights drawn from y -/
def q_dng (d1 : Int64 → Nat) (d2 : Int64 → Int64) (w : Nat → Nat → Nat) (k : Nat) : Nat → Int64 → q_Sg → q_Sg
  | 0, _, s => s
  | g + 1, y, s => q_dng d1 d2 w k g (d2 y) (q_nt s w k (d1 y))
theorem q_dng_s (d1 : Int64 → Nat) (d2 : Int64 → Int64) (w : Nat → Nat → Nat) (k g : Nat) (y : Int64) (s : q_Sg) : q_dng d1 d2 w k (g + 1) y s = q_dng d1 d2 w k g (d2 y) (q_nt s w k (d1 y)) := rfl
theorem q_dng_0 (d1 : Int64 → Nat) (d2 : Int64 → Int64) (w : Nat → Nat → Nat) (k : Nat) (y : Int64) (s : q_Sg) : q_dng d1 d2 w k 0 y s = s := rfl
theorem q_sok.dn {d1 : Int64 → Nat} {d2 : Int64 → Int64} {w : Nat → Nat → Nat} {k : Nat} : ∀ (g : Nat) (y : Int64) {B : Nat} {s : q_Sg}, q_sok B s → q_sok (B + g) (q_dng d1 d2 w k g y s) := by
  intro g
  induction g with
  | zero => intro y B s h; exact h
  | succ g ih =>
    intro y B s h
    rw [q_dng_s, show B + (g + 1) = (B + 1) + g by omega]
    exact ih _ (h.nt _ _ _)
section QS
variable {V : (Nat → Int32) → Int32 → Nat → (Nat → Nat) → Prop} {n : Nat}
theorem x_drawn_loop {w : Nat → Nat → Nat} {T k N0 : Nat} (hn : 300 ≤ n) (hk : k < 100) (hN : N0 ≤ 40) {R : Nat} : ∀ (m g c B : Nat) (y : Int64) (s : q_Sg) (I : Nat → Nat → Int32) (J : Nat → Nat → Int64), g + c = N0 → g < m → q_sok B s → B + g < 2 ^ 19 → q_R (q_sD s) = R → q_wok (q_R (q_sD s)) w → q_HX V I J s → q_cc I (q_sD s) → q_WX I (q_R (q_sD s)) 1 w → I 27 2 = nI k → ∃ I' J', f_X11_drawn_35 n m I J T (nI N0) y (nI c) = some (nI (q_lN (q_sL (q_dng (q_d1 R) (q_d2 R) w k g y s))), I', J') ∧ q_HX V I' J' (q_dng (q_d1 R) (q_d2 R) w k g y s) ∧ q_fX I I' J J' := by
  intro m
  induction m with
  | zero => intro g c B y s I J _ h; omega
  | succ m ih =>
    intro g c B y s I J h1 h2 hs hB hRR hwo hX hc hw hl
    have hR := hs.1.1.1.2.1
    have hp := Nat.two_pow_pos (q_R (q_sD s))
    rw [f_X11_drawn_35]
    cases g with
    | zero =>
      rw [if_pos (nI_le (by omega) (by omega)), q_dng_0, hX.2.2.2.2.2.1.1]
      exact ⟨I, J, rfl, hX, q_fX.r _ _⟩
    | succ g =>
      have hlt := q_dg_lt (b := q_db) (t := q_dy) (R := q_R (q_sD s)) (q_R (q_sD s)) 0 0 y (by omega) hp
      have e1 := x_draw_in (n := n) (T := T) (J := J) hR hX.1.1.2.1 (k35 := f_X11_drawn_35 n m) (nI N0) (nI c) n (q_R (q_sD s)) 0 0 y (by omega) (by omega)
      have e1' : f_X11_drawn_47 n (f_X11_drawn_35 n m) n I J T (nI N0) y (nI c) 0 0 = _ := e1
      have hbs : ∀ S, S < 2 ^ q_R (q_sD s) → S ≠ 0 → 1 ≤ q_bc S := fun S h1 h2 => (q_bcx_eq S (by have := (q_pow2 _ hR).2; omega)).2.2 (by omega)
      obtain ⟨I1, J1, c1, c2, c3, c4, c5, c6⟩ := x_collect (V := V) (n := n) (T := T) hn hs (by omega) hwo (k := k) (f := 1) (S := (q_dg q_db q_dy (q_R (q_sD s)) 0 0 y).1) hk hlt (hbs _ hlt) hX hc hw hl
      rw [if_neg (nI_ge (by omega) (by omega)), e1', c1, Option.bind_some, q_dng_s, nI_1]
      obtain ⟨I', J', f1, f2, f3⟩ := ih g (c + 1) (B + 1) (q_dg q_db q_dy (q_R (q_sD s)) 0 0 y).2 (q_nt s w k (q_dg q_db q_dy (q_R (q_sD s)) 0 0 y).1) I1 J1 (by omega) (by omega) (hs.nt _ _ _) (by omega) hRR hwo c2 c3 c4 c5
      have ed1 : q_d1 R y = (q_dg q_db q_dy (q_R (q_sD s)) 0 0 y).1 := by unfold q_d1; rw [hRR]
      have ed2 : q_d2 R y = (q_dg q_db q_dy (q_R (q_sD s)) 0 0 y).2 := by unfold q_d2; rw [hRR]
      rw [ed1, ed2]
      exact ⟨I', J', f1, f2, ⟨fun a c h => by rw [f3.1 a c h]; exact c6.1 a c h, fun a c h => by rw [f3.2 a c h]; exact c6.2 a c h⟩⟩
theorem m_drawn_loop {w : Nat → Nat → Nat} {k N0 : Nat} (hn : 300 ≤ n) (hk : k < 100) (hN : N0 ≤ 40) {R : Nat} : ∀ (m g c B : Nat) (y : Int64) (s : q_Sg) (I : Nat → Nat → Int32) (J : Nat → Nat → Int64) (T : Nat), g + c = N0 → g < m → q_sok B s → q_R (q_sD s) = R → q_wok (q_R (q_sD s)) w → q_HM I J s → (T = 54 ∨ T = 55) → (∀ s0 I0 J0, q_sU s0 = q_sU s → q_sD s0 = q_sD s → q_HM I0 J0 s0 → 2 ≤ k → q_mc n (q_sD s) w k I0) → ∃ I' J' T', f_X12_drawn_33 n m I J T (nI N0) (nI k) y (nI c) = some (nI (q_lN (q_sL (q_dng (q_d1 R) (q_d2 R) w k g y s))), I', J', T') ∧ q_HM I' J' (q_dng (q_d1 R) (q_d2 R) w k g y s) ∧ (T' = 54 ∨ T' = 55) ∧ q_fM I I' J J' := by
  intro m
  induction m with
  | zero => intro g c B y s I J T _ h; omega
  | succ m ih =>
    intro g c B y s I J T h1 h2 hs hRR hwo hM hT hcm
    have hR := hs.1.1.1.2.1
    have hp := Nat.two_pow_pos (q_R (q_sD s))
    rw [f_X12_drawn_33]
    cases g with
    | zero =>
      rw [if_pos (nI_le (by omega) (by omega)), q_dng_0, hM.2.2.2.2.2.1.1]
      exact ⟨I, J, T, rfl, hM, hT, ⟨fun _ _ _ => rfl, fun _ _ _ => rfl⟩⟩
    | succ g =>
      have hlt := q_dg_lt (b := q_db) (t := q_dy) (R := q_R (q_sD s)) (q_R (q_sD s)) 0 0 y (by omega) hp
      have e1 := m_draw_in (n := n) (T := T) (J := J) hR hM.1.1.2.1 (k33 := f_X12_drawn_33 n m) (nI N0) (nI k) (nI c) n (q_R (q_sD s)) 0 0 y (by omega) (by omega)
      have e1' : f_X12_drawn_45 n (f_X12_drawn_33 n m) n I J T (nI N0) (nI k) y (nI c) 0 0 = _ := e1
      obtain ⟨I1, J1, T1, c1, c2, c3, c4⟩ := m_rides (n := n) hn hs hwo (k := k) (S := (q_dg q_db q_dy (q_R (q_sD s)) 0 0 y).1) hk hlt hM hT hcm
      rw [if_neg (nI_ge (by omega) (by omega)), e1', c1, Option.bind_some, q_dng_s, nI_1]
      obtain ⟨I', J', T', f1, f2, f3, f4⟩ := ih g (c + 1) (B + 1) (q_dg q_db q_dy (q_R (q_sD s)) 0 0 y).2 (q_nt s w k (q_dg q_db q_dy (q_R (q_sD s)) 0 0 y).1) I1 J1 T1 (by omega) (by omega) (hs.nt _ _ _) hRR hwo c2 c3 hcm
      have ed1 : q_d1 R y = (q_dg q_db q_dy (q_R (q_sD s)) 0 0 y).1 := by unfold q_d1; rw [hRR]
      have ed2 : q_d2 R y = (q_dg q_db q_dy (q_R (q_sD s)) 0 0 y).2 := by unfold q_d2; rw [hRR]
      rw [ed1, ed2]
      exact ⟨I', J', T', f1, f2, f3, ⟨fun a c h => by rw [f4.1 a c h]; exact c4.1 a c h, fun a c h => by rw [f4.2 a c h]; exact c4.2 a c h⟩⟩
variable {B : Nat} {I I2 : Nat → Nat → Int32} {J J2 : Nat → Nat → Int64} {T : Nat} {s : q_Sg} {w : Nat → Nat → Nat → Nat}
theorem i_drawn (hn : 300 ≤ n) (hs : q_sok B s) (hB : B < 2 ^ 18) (hX : q_HX V I J s) (hM : q_HM I2 J2 s) (hT : T = 54 ∨ T = 55) (hcx : ∀ k, k < 3 + (q_sU s).1 → q_wc n J T (q_sD s) (w k) (am_u I 27 2 (nI k))) (hcm : ∀ k, k < 3 + (q_sU s).1 → ∀ s0 I0 J0, q_sU s0 = q_sU s → q_sD s0 = q_sD s → q_HM I0 J0 s0 → 2 ≤ k → q_mc n (q_sD s) (w k) k I0) (hwo : ∀ k, k < 3 + (q_sU s).1 → q_wok (q_R (q_sD s)) (w k)) (x1 x2 : Int32) (y : Int64) : ∃ r I' J' I2' J2' T' s', f_X11_drawn n I J T x1 x2 y = some (r, I', J') ∧ f_X12_drawn n I2 J2 T x1 x2 y = some (r, I2', J2', T') ∧ q_HX V I' J' s' ∧ q_HM I2' J2' s' ∧ q_sok (B + 40) s' ∧ (T' = 54 ∨ T' = 55) ∧ q_fX I I' J J' ∧ q_fM I2 I2' J2 J2' := by
  have hD := hs.1.1
  have hR := hD.1.2.1
  have hM0 := (hM.th 0).1
  have hu1 := hs.2.2.1.1
  have hs40 : q_sok (B + 40) s := hs.up (by omega)
  unfold f_X11_drawn f_X12_drawn
  rcases g_law (n := n) (J := J) (J2 := J2) (T := T) hs.1 hX.1 hM0 hu1 hX.2.2.1.1 (hM.th 0).2.2.1.1 x2 with ⟨k, l1, l2, l3, l4, l5⟩ | ⟨l4, l5⟩
  · rcases g_on x1 1 40 (A := 1) (B := 40) (A' := 1) (B' := 40) rfl rfl rfl rfl (by omega) (by omega) with ⟨v, v1, v2, v3, v4, v5⟩ | ⟨v4, v5⟩
    · obtain ⟨I1, e1, e2, e3, e4, e5, e6⟩ := x_weigh (n := n) (J := J) (T := T) hn hD hX.1 (hcx k l1) (f := 1) (Nat.le_refl _) (by omega)
      have e1' : f_X7_weigh n I J T (nI k) 1 = some I1 := e1
      have hX1 : q_HX V I1 J s := hX.wf hs.2.2.1 (q_wf2 e2)
      obtain ⟨I', J', c1, c2, c3⟩ := x_drawn_loop (V := V) (n := n) (T := T) hn (k := k) (N0 := v) (by omega) v2 (R := q_R (q_sD s)) n v 0 B y s I1 J (by omega) (by omega) hs (by omega) rfl (hwo k l1) hX1 e3 e4 e5
      obtain ⟨I3, J3, T3, m1, m2, m3, m4⟩ := m_drawn_loop (n := n) hn (k := k) (N0 := v) (by omega) v2 (R := q_R (q_sD s)) n v 0 B y s (am_u I2 53 0 0) J2 T (by omega) (by omega) hs rfl (hwo k l1) (hM.th 0) hT (hcm k l1)
      have c1' : f_X11_drawn_35 n n I1 J T (nI v) y 0 = _ := c1
      have m1' : f_X12_drawn_33 n n (am_u I2 53 0 0) J2 T (nI v) (nI k) y 0 = _ := m1
      rw [l4, v4, l5, v5, Option.bind_some, Option.bind_some, Option.bind_some, Option.bind_some, if_neg q_10, if_neg q_10, if_neg q_10, if_neg q_10, l3, v3, e1', Option.bind_some, c1', m1']
      exact ⟨_, I', J', I3, J3, T3, _, rfl, rfl, c2, m2, (q_sok.dn v y hs).up (by omega), m3, ⟨fun a c h => by rw [c3.1 a c h]; exact q_wf2 e2 a c (by omega), c3.2⟩, ⟨fun a c h => by rw [m4.1 a c h]; unfold am_u; rw [if_neg (by omega)], m4.2⟩⟩
    · rw [l4, v5, v4, Option.bind_some, Option.bind_some, Option.bind_some, if_neg q_10, if_pos rfl, if_pos rfl]
      exact ⟨_, _, _, _, _, _, s, rfl, rfl, hX, hM.th _, hs40, hT, q_fX.r _ _, q_fM.th _ _ _⟩
  · rw [l4, Option.bind_some, if_pos rfl]
    rcases g_on x1 1 40 (A := 1) (B := 40) (A' := 1) (B' := 40) rfl rfl rfl rfl (by omega) (by omega) with ⟨v, v1, v2, v3, v4, v5⟩ | ⟨v4, v5⟩
    · rw [v5, l5, Option.bind_some, Option.bind_some, if_neg q_10, if_pos rfl]
      exact ⟨_, _, _, _, _, _, s, rfl, rfl, hX, hM.th _, hs40, hT, q_fX.r _ _, q_fM.th _ _ _⟩
    · rw [v5, Option.bind_some, if_pos rfl]
      exact ⟨_, _, _, _, _, _, s, rfl, rfl, hX, hM.th _, hs40, hT, q_fX.r _ _, q_fM.th _ _ _⟩
end QS
