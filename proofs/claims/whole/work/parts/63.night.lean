/-! ===== night; draws ===== -/
section QS
variable {V : (Nat → Int32) → Int32 → Nat → (Nat → Nat) → Prop} {n B : Nat} {I I2 : Nat → Nat → Int32} {J J2 : Nat → Nat → Int64} {T : Nat} {s : q_Sg} {w : Nat → Nat → Nat → Nat}
theorem i_night (hn : 300 ≤ n) (hs : q_sok B s) (hB : B < 2 ^ 19) (hX : q_HX V I J s) (hM : q_HM I2 J2 s) (hT : T = 54 ∨ T = 55) (hcx : ∀ k, k < 3 + (q_sU s).1 → q_wc n J T (q_sD s) (w k) (am_u I 27 2 (nI k))) (hcm : ∀ k, k < 3 + (q_sU s).1 → ∀ s0 I0 J0, q_sU s0 = q_sU s → q_sD s0 = q_sD s → q_HM I0 J0 s0 → 2 ≤ k → q_mc n (q_sD s) (w k) k I0) (hwo : ∀ k, k < 3 + (q_sU s).1 → q_wok (q_R (q_sD s)) (w k)) (x1 x2 : Int32) : ∃ r I' J' I2' J2' T' s', f_X11_night n I J T x1 x2 = some (r, I', J') ∧ f_X12_night n I2 J2 T x1 x2 = some (r, I2', J2', T') ∧ q_HX V I' J' s' ∧ q_HM I2' J2' s' ∧ q_sok (B + 40) s' ∧ (T' = 54 ∨ T' = 55) ∧ q_fX I I' J J' ∧ q_fM I2 I2' J2 J2' := by
  have hD := hs.1.1
  have hR := hD.1.2.1
  have hM0 := (hM.th 0).1
  have hu1 := hs.2.2.1.1
  have hs40 : q_sok (B + 40) s := hs.up (by omega)
  unfold f_X11_night f_X12_night
  rcases g_set (n := n) (J := J) (J2 := J2) (T := T) hs.1 hX.1 hM0 x1 with ⟨S, h1, h2, h3, h4, h5, h6⟩ | ⟨h5, h6, h7⟩
  · rw [h5, h6, Option.bind_some, Option.bind_some, if_neg q_10, h4]
    by_cases hS0 : S = 0
    · subst hS0
      rw [if_pos nI_0, if_pos rfl, if_pos rfl]
      exact ⟨_, _, _, _, _, _, s, rfl, rfl, hX, hM.th _, hs40, hT, q_fX.r _ _, q_fM.th _ _ _⟩
    · rw [if_neg (nI_ne0 (by omega) (by omega)), if_neg hS0, if_neg q_10]
      rcases g_law (n := n) (J := J) (J2 := J2) (T := T) hs.1 hX.1 hM0 hu1 hX.2.2.1.1 (hM.th 0).2.2.1.1 x2 with ⟨k, l1, l2, l3, l4, l5⟩ | ⟨l4, l5⟩
      · have hbs := q_bcx_eq S (by omega)
        have hb2 := q_bc_R hR h1
        obtain ⟨I1, e1, e2, e3, e4, e5, e6⟩ := x_weigh (n := n) (J := J) (T := T) hn hD hX.1 (hcx k l1) (f := q_bc S) (hbs.2.2 (by omega)) (by omega)
        have hX1 : q_HX V I1 J s := hX.wf hs.2.2.1 (q_wf2 e2)
        obtain ⟨I', J', c1, c2, c3, c4, c5, c6⟩ := x_collect (V := V) (n := n) (T := T) hn hs hB (hwo k l1) (k := k) (f := q_bc S) (S := S) (by omega) h1 (fun _ => Nat.le_refl _) hX1 e3 e4 e5
        obtain ⟨I3, J3, T3, m1, m2, m3, m4⟩ := m_rides (n := n) hn hs (hwo k l1) (k := k) (S := S) (by omega) h1 (hM.th 0) hT (hcm k l1)
        rw [l4, l5, Option.bind_some, Option.bind_some, if_neg q_10, if_neg q_10, l3, j_bitCount (by omega), Option.bind_some, e1, Option.bind_some, c1, Option.bind_some, m1, Option.bind_some]
        refine ⟨nI (q_lN (q_sL s) + 1), I', J', I3, J3, T3, q_nt s (w k) k S, ?_, ?_, c2, m2, (hs.nt _ _ _).up (by omega), m3, ⟨fun a c h => by rw [c6.1 a c h]; exact q_wf2 e2 a c (by omega), c6.2⟩, ⟨fun a c h => by rw [m4.1 a c h]; unfold am_u; rw [if_neg (by omega)], m4.2⟩⟩
        · show some (I' 41 2, I', J') = _
          rw [show I' 41 2 = nI (q_lN (q_sL s) + 1) from c2.2.2.2.2.2.1.1]
        · show some (I3 53 51, I3, J3, T3) = _
          rw [show I3 53 51 = nI (q_lN (q_sL s) + 1) from m2.2.2.2.2.2.1.1]
      · rw [l4, l5, Option.bind_some, Option.bind_some, if_pos rfl, if_pos rfl]
        exact ⟨_, _, _, _, _, _, s, rfl, rfl, hX, hM.th _, hs40, hT, q_fX.r _ _, q_fM.th _ _ _⟩
  · rw [h5, h6, Option.bind_some, Option.bind_some, if_pos rfl, if_pos rfl]
    exact ⟨_, _, _, _, _, _, s, rfl, rfl, hX, hM.th _, hs40, hT, q_fX.r _ _, q_fM.th _ _ _⟩
end QS
/-! draws -/
def q_dy (y : Int64) : Int64 := (y * 6364136223846793005) + 1442695040888963407
def q_dc (y : Int64) : Nat := (y.toUInt64 >>> 33).toNat
/-- the set that is drawn, from rider r on, g riders left; what the draw goes on from -/
def q_dg (b : Int64 → Bool) (t : Int64 → Int64) : Nat → Nat → Nat → Int64 → Nat × Int64
  | 0, _, S, y => (S, y)
  | g + 1, r, S, y => q_dg b t g (r + 1) (if b (t y) = true then S ||| 2 ^ r else S) (t y)
theorem q_dg_s (b : Int64 → Bool) (t : Int64 → Int64) (g r S : Nat) (y : Int64) : q_dg b t (g + 1) r S y = q_dg b t g (r + 1) (if b (t y) = true then S ||| 2 ^ r else S) (t y) := rfl
theorem q_dg_0 (b : Int64 → Bool) (t : Int64 → Int64) (r S : Nat) (y : Int64) : q_dg b t 0 r S y = (S, y) := rfl
def q_db (y : Int64) : Bool := decide (q_dc y % 2 = 1)
theorem q_dg_lt {b : Int64 → Bool} {t : Int64 → Int64} {R : Nat} : ∀ g r S y, g + r = R → S < 2 ^ R → (q_dg b t g r S y).1 < 2 ^ R := by
  intro g
  induction g with
  | zero => intro r S y _ h; exact h
  | succ g ih =>
    intro r S y h1 h2
    rw [q_dg_s]
    split
    · exact ih (r + 1) _ _ (by omega) (Nat.or_lt_two_pow h2 (Nat.pow_lt_pow_right (by omega) (by omega)))
    · exact ih (r + 1) _ _ (by omega) h2
theorem q_u64 (u : UInt64) : u.toInt64 = zL u.toNat := by
  apply Int64.toBitVec_inj.mp
  show u.toBitVec = BitVec.ofInt 64 (u.toBitVec.toNat : Int)
  rw [BitVec.ofInt_natCast, BitVec.ofNat_toNat]
  simp
theorem q_lsh (y : Int64) : am_lsh y 33 = zL (q_dc y) ∧ q_dc y < 2 ^ 31 := by
  have e : (Int64.toUInt64 ((33 : Int32).toInt64)) &&& Int64.toUInt64 63 = 33 := by decide +kernel
  have h : q_dc y < 2 ^ 31 := by
    unfold q_dc
    rw [UInt64.toNat_shiftRight]
    have h1 := UInt64.toNat_lt y.toUInt64
    rw [show (33 : UInt64).toNat % 64 = 33 from rfl, Nat.shiftRight_eq_div_pow]
    omega
  refine ⟨?_, h⟩
  unfold am_lsh q_dc
  rw [e, q_u64]
theorem q_rem2 (y : Int64) : am_lsh y 33 - am_lsh y 33 / 2 * 2 = zL ((q_dc y % 2 : Nat) : Int) := by
  obtain ⟨h1, h2⟩ := q_lsh y
  rw [h1, show (2 : Int64) = zL 2 from rfl, zL_rem (by omega) (by omega)]
  rfl
theorem q_01 : ∀ r, r < 6 → ((zL ((0 : Nat) : Int)).toInt32 <<< (nI r &&& 31)) = 0 ∧ ((zL ((1 : Nat) : Int)).toInt32 <<< (nI r &&& 31)) = nI (2 ^ r) := by decide +kernel
section QW
variable {n R : Nat} {I : Nat → Nat → Int32} {J : Nat → Nat → Int64} {T : Nat}
theorem x_draw_in (hR : R ≤ 6) (h : I 3 1 = nI R) {k35 : (Nat → Nat → Int32) → (Nat → Nat → Int64) → Nat → Int32 → Int64 → Int32 → Option (Int32 × (Nat → Nat → Int32) × (Nat → Nat → Int64))} (x1 x7 : Int32) : ∀ (m g r S : Nat) (y : Int64), g + r = R → g < m → f_X11_drawn_47 n k35 m I J T x1 y x7 (nI S) (nI r) = (f_X0_collect n I J T (nI (q_dg q_db q_dy g r S y).1)).bind fun w2 => k35 w2.1 w2.2 T x1 (q_dg q_db q_dy g r S y).2 (x7 + 1) := by
  intro m
  induction m with
  | zero => intro g r S y _ h; omega
  | succ m ih =>
    intro g r S y h1 h2
    rw [f_X11_drawn_47, h]
    cases g with
    | zero =>
      rw [if_pos (nI_le (by omega) (by omega)), q_dg_0]
    | succ g =>
      rw [if_neg (nI_ge (by omega) (by omega)), Option.bind_some]
      have e : (y * 6364136223846793005 + 1442695040888963407) = q_dy y := by unfold q_dy; exact Eq.refl _
      rw [e, q_rem2]
      rw [q_dg_s, nI_1]
      obtain ⟨z0, z1⟩ := q_01 r (by omega)
      rcases (show q_dc (q_dy y) % 2 = 0 ∨ q_dc (q_dy y) % 2 = 1 by omega) with hb | hb
      · rw [hb, z0, q_or0, if_neg (show ¬ q_db (q_dy y) = true by unfold q_db; rw [hb]; decide)]
        exact ih g (r + 1) S _ (by omega) (by omega)
      · rw [hb, z1, q_or, if_pos (show q_db (q_dy y) = true by unfold q_db; rw [hb]; decide)]
        exact ih g (r + 1) _ _ (by omega) (by omega)
theorem m_draw_in (hR : R ≤ 6) (h : I 53 27 = nI R) {k33 : (Nat → Nat → Int32) → (Nat → Nat → Int64) → Nat → Int32 → Int32 → Int64 → Int32 → Option (Int32 × (Nat → Nat → Int32) × (Nat → Nat → Int64) × Nat)} (x1 x2 x7 : Int32) : ∀ (m g r S : Nat) (y : Int64), g + r = R → g < m → f_X12_drawn_45 n k33 m I J T x1 x2 y x7 (nI S) (nI r) = (f_X12_ridesBy n I J T (nI (q_dg q_db q_dy g r S y).1) x2).bind fun w2 => k33 w2.1 w2.2.1 w2.2.2 x1 x2 (q_dg q_db q_dy g r S y).2 (x7 + 1) := by
  intro m
  induction m with
  | zero => intro g r S y _ h; omega
  | succ m ih =>
    intro g r S y h1 h2
    rw [f_X12_drawn_45, h]
    cases g with
    | zero =>
      rw [if_pos (nI_le (by omega) (by omega)), q_dg_0]
    | succ g =>
      have e : (y * 6364136223846793005 + 1442695040888963407) = q_dy y := by unfold q_dy; exact Eq.refl _
      rw [if_neg (nI_ge (by omega) (by omega)), e, q_rem2]
      unfold f_X12_drawn_90
      obtain ⟨z1, z2⟩ := q_shl6 r (by omega)
      rw [q_dg_s, nI_1]
      rcases (show q_dc (q_dy y) % 2 = 0 ∨ q_dc (q_dy y) % 2 = 1 by omega) with hb | hb
      · rw [hb, if_neg (show ¬ lg_cmp (zL ((0 : Nat) : Int)) 1 = 0 by decide +kernel), q_or0, if_neg (show ¬ q_db (q_dy y) = true by unfold q_db; rw [hb]; decide)]
        exact ih g (r + 1) S _ (by omega) (by omega)
      · rw [hb, if_pos (show lg_cmp (zL ((1 : Nat) : Int)) 1 = 0 by decide +kernel), z1, q_or, if_pos (show q_db (q_dy y) = true by unfold q_db; rw [hb]; decide)]
        exact ih g (r + 1) _ _ (by omega) (by omega)
end QW
