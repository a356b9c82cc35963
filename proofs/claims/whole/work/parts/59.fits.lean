/-! ===== fits, both sides ===== -/
abbrev q_Se : Type := Nat × (Nat → Nat) × (Nat → Nat) × (Nat → Nat)
/-- the payment seen as number j is what sections ask -/
def q_h1 (D : q_Rd) (S : q_Se) (j : Nat) : Bool := decide (q_sec D (2 ^ q_R D - 1) (S.2.1 j) (q_W D) * S.2.2.2 j = S.2.2.1 j * 60)
def q_hr (D : q_Rd) (S : q_Se) : Nat → Nat → Bool
  | 0, _ => true
  | i + 1, j => q_h1 D S j && q_hr D S i (j + 1)
/-- the homes that fit, from p on -/
def q_fb (D : q_Rd) (S : q_Se) (r : Nat) : Nat → Nat → Nat → Nat
  | 0, a, _ => a
  | g + 1, a, p => if q_hr (q_mh D r p) S S.1 0 = true then q_fb D S r g (a ||| 2 ^ p) (p + 1) else q_fb D S r g a (p + 1)
theorem q_shl10 : ∀ p, p < 10 → (1 : Int32) <<< (nI p &&& 31) = nI (2 ^ p) := by decide +kernel
theorem q_sec_le2 {D : q_Rd} (hD : q_ok D) (S r : Nat) : q_sec D S r (q_W D) ≤ 432000 := by
  have := q_sec_le hD S r (q_W D) (Nat.le_refl _)
  have := hD.1.1
  omega
section QS
variable {V : (Nat → Int32) → Int32 → Nat → (Nat → Nat) → Prop} {n B : Nat} {s : q_Sg}
theorem x_hold_loop (hn : 300 ≤ n) (hs : q_sok B s) (hR0 : 0 < q_R (q_sD s)) {f : Nat} (hf : f ≤ q_bc (2 ^ q_R (q_sD s) - 1)) {w : Nat → Nat → Nat} (hwo : q_wok (q_R (q_sD s)) w) {J : Nat → Nat → Int64} {T : Nat} : ∀ (m i j : Nat) (I : Nat → Nat → Int32), i + j = (q_sS s).1 → i < m → q_HX V I J s → q_cc I (q_sD s) → q_WX I (q_R (q_sD s)) f w → I 27 2 = nI 0 → ∃ I', f_X8_hold_25 n m I J T (nI (2 ^ q_R (q_sD s) - 1)) (nI j) = some (if q_hr (q_sD s) (q_sS s) i j = true then 1 else 0, I') ∧ q_HX V I' J s ∧ ∀ a c, a ≠ 28 → I' a c = I a c := by
  have hD := hs.1.1
  have hW := hD.1.1
  have hR := hD.1.2.1
  have hp := (q_pow2 _ hR).2
  have h2p : 2 ^ 1 ≤ 2 ^ q_R (q_sD s) := Nat.pow_le_pow_right (by omega) (by omega)
  intro m
  induction m with
  | zero => intro i j I _ h; omega
  | succ m ih =>
    intro i j I h1 h2 hX hc hw hl
    have hsz := hs.2.2.2.2.1.1
    have h5 : I 37 5 = nI (q_sS s).1 := hX.2.2.2.2.1.1
    rw [f_X8_hold_25, h5]
    cases i with
    | zero =>
      rw [if_pos (nI_le (by omega) (by omega))]
      exact ⟨I, rfl, hX, fun _ _ _ => rfl⟩
    | succ i =>
      obtain ⟨g1, g2, g3, g4⟩ := hs.2.2.2.2.1.2 j (by omega)
      obtain ⟨v1, v2, v3⟩ := hX.2.2.2.2.1.2 j (by omega)
      have hix : ok_ix (nI j) 10 := q_ix (by omega) (by omega)
      have hcl : (nI j).toNatClampNeg = j := q_cl (by omega)
      obtain ⟨I2, d1, d2, d3, d4⟩ := x_above (n := n) (J := J) (T := T) hn hD hX.1 hc hw hwo (k := 0) (by omega) hl (S := 2 ^ q_R (q_sD s) - 1) (r := (q_sS s).2.1 j) (by omega) hf g1 (q_all g1)
      have hw2 : q_WX I2 (q_R (q_sD s)) f w := fun p p1 p2 i hi => by rw [d4 29 _ (by omega)]; exact hw p p1 p2 i hi
      have hl2 : I2 27 2 = nI 0 := by rw [d4 27 _ (by omega)]; exact hl
      have c1 := x_below (n := n) (J := J) (T := T) hn hD d3 hw2 hwo (k := 0) (by omega) hl2 (S := 2 ^ q_R (q_sD s) - 1) (by omega) hf
      have hX2 : q_HX V I2 J s := hX.wf hs.2.2.1 (fun a c h => d4 a c (by omega))
      have hA : zL (q_K 0 (2 ^ q_R (q_sD s) - 1) * q_A (q_sD s) w 0 (2 ^ q_R (q_sD s) - 1) ((q_sS s).2.1 j)) = zL (q_sec (q_sD s) (2 ^ q_R (q_sD s) - 1) ((q_sS s).2.1 j) (q_W (q_sD s)) : Nat) := by
        unfold q_K q_A
        rw [if_neg (by omega), if_pos rfl]
        show zL (1 * _) = _
        rw [Int.one_mul]
      have hB : zL ((q_K 0 (2 ^ q_R (q_sD s) - 1) * q_B (q_sD s) w 0 (2 ^ q_R (q_sD s) - 1) : Nat) : Int) = zL (60 : Nat) := by
        unfold q_K q_B
        rw [if_neg (by omega), if_pos rfl]
      have hsl := q_sec_le2 hD (2 ^ q_R (q_sD s) - 1) ((q_sS s).2.1 j)
      have m1 := Nat.mul_le_mul hsl g4
      have m2 := Nat.mul_le_mul g2 (Nat.le_refl 60)
      rw [hA] at d1
      rw [hB] at c1
      have hiff : (lg_cmp (zL (q_sec (q_sD s) (2 ^ q_R (q_sD s) - 1) ((q_sS s).2.1 j) (q_W (q_sD s)) : Nat) * zL ((q_sS s).2.2.2 j : Nat)) (zL ((q_sS s).2.2.1 j : Nat) * zL (60 : Nat)) = 0) ↔ q_h1 (q_sD s) (q_sS s) j = true := by
        rw [lg_cmp_eq, zL_mul, zL_mul, ← Int.natCast_mul, ← Int.natCast_mul, zL_eq (by omega) (by omega) (by omega) (by omega)]
        unfold q_h1
        rw [decide_eq_true_eq]
        omega
      rw [if_neg (nI_ge (by omega) (by omega))]
      simp only [if_pos hix, hcl, v1, d1, Option.bind_some, c1]
      rw [show I2 40 j = nI ((q_sS s).2.2.2 j) from by rw [d4 40 _ (by omega)]; exact v3, show I2 39 j = nI ((q_sS s).2.2.1 j) from by rw [d4 39 _ (by omega)]; exact v2, nI_l (by omega), nI_l (by omega), zL_n, zL_n]
      have eu : q_hr (q_sD s) (q_sS s) (i + 1) j = (q_h1 (q_sD s) (q_sS s) j && q_hr (q_sD s) (q_sS s) i (j + 1)) := rfl
      by_cases hh : q_h1 (q_sD s) (q_sS s) j = true
      · rw [if_pos (hiff.mpr hh), nI_1, eu, hh, Bool.true_and]
        obtain ⟨I', f1, f2, f3⟩ := ih i (j + 1) I2 (by omega) (by omega) hX2 d2 hw2 hl2
        exact ⟨I', f1, f2, fun a c h => by rw [f3 a c h, d4 a c h]⟩
      · rw [if_neg (fun z => hh (hiff.mp z)), eu, show q_h1 (q_sD s) (q_sS s) j = false by simpa using hh, Bool.false_and, if_neg (by decide)]
        exact ⟨I2, rfl, hX2, d4⟩
theorem x_hold (hn : 300 ≤ n) (hs : q_sok B s) (hR0 : 0 < q_R (q_sD s)) {I : Nat → Nat → Int32} {J : Nat → Nat → Int64} {T : Nat} (hX : q_HX V I J s) : ∃ I', f_X8_hold n I J T = some (if q_hr (q_sD s) (q_sS s) (q_sS s).1 0 = true then 1 else 0, I') ∧ q_HX V I' J s ∧ ∀ a c, 53 ≤ a → I' a c = I a c := by
  have hD := hs.1.1
  have hR := hD.1.2.1
  have hbc := q_bc_all _ hR
  have hsz := hs.2.2.2.2.1.1
  have hx0 : q_RX (am_u I 27 2 (nI 0)) (q_sD s) := hX.1.of3 (fun a k _ _ => by unfold am_u; rw [if_neg (by omega)])
  obtain ⟨I1, e1, e2, e3, e4, e5, e6⟩ := x_weigh (n := n) (J := J) (T := T) hn hD hX.1 (x_wc2 (n := n) (J := J) (T := T) hn hD hx0 (k := 0) (by omega) (by simp [am_u])) (f := q_R (q_sD s)) (by omega) (Nat.le_succ _)
  have e1' : f_X7_weigh n I J T 0 (nI (q_R (q_sD s))) = some I1 := e1
  have hX1 : q_HX V I1 J s := hX.wf hs.2.2.1 (q_wf2 e2)
  obtain ⟨I', f1, f2, f3⟩ := x_hold_loop (V := V) (n := n) (T := T) hn hs hR0 (f := q_R (q_sD s)) (by omega) (q_w2_ok hD 0) n (q_sS s).1 0 I1 (by omega) (by omega) hX1 e3 e4 e5
  have f1' : f_X8_hold_25 n n I1 J T (nI (2 ^ q_R (q_sD s) - 1)) 0 = _ := f1
  unfold f_X8_hold
  rw [x_everyone hD hX.1, Option.bind_some, hX.1.1.2.1, e1', Option.bind_some, f1']
  exact ⟨I', rfl, f2, fun a c h => by rw [f3 a c (by omega)]; exact q_wf2 e2 a c (by omega)⟩
theorem x_fits_loop (hn : 300 ≤ n) (hs : q_sok B s) {r : Nat} (hr : r < q_R (q_sD s)) {J : Nat → Nat → Int64} {T : Nat} : ∀ (m g a p pc : Nat) (I : Nat → Nat → Int32), g + p = q_W (q_sD s) + 1 → g < m → 1 ≤ p → q_HX V I J (q_mv s r pc) → ∃ I', f_X11_fits_25 n m I J T (nI r) (nI (q_ho (q_sD s) r)) (nI a) (nI p) = some (nI (q_fb (q_sD s) (q_sS s) r g a p), I') ∧ q_HX V I' J s ∧ ∀ a c, 53 ≤ a → I' a c = I a c := by
  have hD := hs.1.1
  have hW := hD.1.1
  have hR := hD.1.2.1
  have hix : ok_ix (nI r) 6 := q_ix (by omega) (by omega)
  have hcl : (nI r).toNatClampNeg = r := q_cl (by omega)
  intro m
  induction m with
  | zero => intro g a p pc I _ h; omega
  | succ m ih =>
    intro g a p pc I h1 h2 p1 hX
    have hx0 : I 3 0 = nI (q_W (q_sD s)) := hX.1.1.1
    rw [f_X11_fits_25, hx0]
    cases g with
    | zero =>
      rw [if_pos (nI_lt (by omega) (by omega)), if_pos hix, hcl]
      have hX1 := q_HX.mv (s := q_mv s r pc) hs.2.2.1 hX r (q_ho (q_sD s) r)
      rw [q_mv_mv, q_mv_self] at hX1
      exact ⟨_, rfl, hX1, fun a c h => by unfold am_u; rw [if_neg (by omega)]⟩
    | succ g =>
      have p2 : p ≤ q_W (q_sD s) := by omega
      have hX1 := q_HX.mv (s := q_mv s r pc) hs.2.2.1 hX r p
      rw [q_mv_mv] at hX1
      obtain ⟨I1, e1, e2, e3⟩ := x_hold (V := V) (n := n) (T := T) hn (hs.mv (r := r) p1 p2) (Nat.lt_of_le_of_lt (Nat.zero_le _) hr) hX1
      have e1' : f_X8_hold n (am_u I 6 r (nI p)) J T = some (if q_hr (q_mh (q_sD s) r p) (q_sS s) (q_sS s).1 0 = true then 1 else 0, I1) := e1
      have hfr : ∀ a c, 53 ≤ a → I1 a c = I a c := fun a c h => by
        rw [e3 a c h]
        unfold am_u
        rw [if_neg (by omega)]
      have eu : q_fb (q_sD s) (q_sS s) r (g + 1) a p = (if q_hr (q_mh (q_sD s) r p) (q_sS s) (q_sS s).1 0 = true then q_fb (q_sD s) (q_sS s) r g (a ||| 2 ^ p) (p + 1) else q_fb (q_sD s) (q_sS s) r g a (p + 1)) := rfl
      rw [if_neg (nI_nlt (by omega) (by omega)), if_pos hix, hcl, e1', Option.bind_some, q_shl10 p (by omega), q_or, eu]
      unfold f_X11_fits_65
      rw [nI_1]
      by_cases hh : q_hr (q_mh (q_sD s) r p) (q_sS s) (q_sS s).1 0 = true
      · rw [if_pos hh, if_neg (by exact q_10), if_pos hh]
        obtain ⟨I', f1, f2, f3⟩ := ih g (a ||| 2 ^ p) (p + 1) p I1 (by omega) (by omega) (by omega) e2
        exact ⟨I', f1, f2, fun a c h => by rw [f3 a c h]; exact hfr a c h⟩
      · rw [if_neg hh, if_pos (by rfl), if_neg hh]
        obtain ⟨I', f1, f2, f3⟩ := ih g a (p + 1) p I1 (by omega) (by omega) (by omega) e2
        exact ⟨I', f1, f2, fun a c h => by rw [f3 a c h]; exact hfr a c h⟩
end QS
