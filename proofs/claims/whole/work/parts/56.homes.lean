/-! ===== another home for one rider ===== -/
def q_mh (D : q_Rd) (r p : Nat) : q_Rd := (D.1, q_fr D, q_mi D, (fun j => if j = r then p else q_ho D j), q_wa D, q_se D)
def q_mv (s : q_Sg) (r p : Nat) : q_Sg := (q_mh (q_sD s) r p, s.2)
theorem q_mh_mh (D : q_Rd) (r p t : Nat) : q_mh (q_mh D r p) r t = q_mh D r t := by
  unfold q_mh
  refine congrArg (fun f => (D.1, q_fr D, q_mi D, f, q_wa D, q_se D)) (funext fun j => ?_)
  show (if j = r then t else if j = r then p else q_ho D j) = if j = r then t else q_ho D j
  by_cases e : j = r
  · rw [if_pos e, if_pos e]
  · rw [if_neg e, if_neg e, if_neg e]
theorem q_mh_self (D : q_Rd) (r : Nat) : q_mh D r (q_ho D r) = D := by
  have h : (fun j => if j = r then q_ho D r else q_ho D j) = q_ho D := funext fun j => by
    by_cases e : j = r
    · rw [if_pos e, e]
    · rw [if_neg e]
  unfold q_mh
  rw [h]
theorem q_mv_mv (s : q_Sg) (r p t : Nat) : q_mv (q_mv s r p) r t = q_mv s r t := by
  show (q_mh (q_mh (q_sD s) r p) r t, s.2) = (q_mh (q_sD s) r t, s.2)
  rw [q_mh_mh]
theorem q_mv_self (s : q_Sg) (r : Nat) : q_mv s r (q_ho (q_sD s) r) = s := by
  unfold q_mv
  rw [q_mh_self]
theorem q_ok.mh {D : q_Rd} (h : q_ok D) {r p : Nat} (p1 : 1 ≤ p) (p2 : p ≤ q_W D) : q_ok (q_mh D r p) := by
  refine ⟨h.1, h.2.1, fun j j1 => ?_⟩
  obtain ⟨z1, z2, z3⟩ := h.2.2 j j1
  show 1 ≤ (if j = r then p else q_ho D j) ∧ (if j = r then p else q_ho D j) ≤ _ ∧ _
  by_cases e : j = r
  · rw [if_pos e]
    exact ⟨p1, p2, z3⟩
  · rw [if_neg e]
    exact ⟨z1, z2, z3⟩
theorem q_dok.mh {D : q_Rd} (h : q_dok D) {r p : Nat} (p1 : 1 ≤ p) (p2 : p ≤ q_W D) : q_dok (q_mh D r p) := ⟨h.1.mh p1 p2, h.2⟩
theorem q_RX.mh {I : Nat → Nat → Int32} {D : q_Rd} (a : q_RX I D) (r p : Nat) : q_RX (am_u I 6 r (nI p)) (q_mh D r p) := by
  refine ⟨a.1, a.2.1, fun j j1 => ⟨?_, (a.2.2 j j1).2⟩⟩
  show am_u I 6 r (nI p) 6 j = nI (if j = r then p else q_ho D j)
  by_cases e : j = r
  · rw [if_pos e, e]
    simp [am_u]
  · rw [if_neg e, ← (a.2.2 j j1).1]
    unfold am_u
    rw [if_neg (by omega)]
theorem q_RM.mh {I : Nat → Nat → Int32} {D : q_Rd} (a : q_RM I D) (r p : Nat) : q_RM (am_u I 60 (3 * r) (nI p)) (q_mh D r p) := by
  refine ⟨a.1, a.2.1, fun j j1 => ⟨?_, ?_, ?_⟩⟩
  · show am_u I 60 (3 * r) (nI p) 60 (3 * j) = nI (if j = r then p else q_ho D j)
    by_cases e : j = r
    · rw [if_pos e, e]
      simp [am_u]
    · rw [if_neg e, ← (a.2.2 j j1).1]
      unfold am_u
      rw [if_neg (by omega)]
  · show _ = nI (q_wa D j)
    rw [← (a.2.2 j j1).2.1]
    unfold am_u
    rw [if_neg (by omega)]
  · show _ = nI (q_se D j)
    rw [← (a.2.2 j j1).2.2]
    unfold am_u
    rw [if_neg (by omega)]
section QS
variable {V : (Nat → Int32) → Int32 → Nat → (Nat → Nat) → Prop} {n B : Nat} {I I2 : Nat → Nat → Int32} {J J2 : Nat → Nat → Int64} {T : Nat} {s : q_Sg}
theorem q_sok.mv (hs : q_sok B s) {r p : Nat} (p1 : 1 ≤ p) (p2 : p ≤ q_W (q_sD s)) : q_sok B (q_mv s r p) := by
  obtain ⟨s1, s2, s3, s4, s5, s6, s7⟩ := hs
  exact ⟨s1.mh p1 p2, s2, s3, s4, s5, s6, s7⟩
theorem q_HX.mv (hu : q_uok (q_sU s)) (hX : q_HX V I J s) (r p : Nat) : q_HX V (am_u I 6 r (nI p)) J (q_mv s r p) := by
  obtain ⟨a, b, c, d, i, l, m, t, w⟩ := hX
  exact ⟨a.mh r p, b.of rfl (fun _ => rfl), c.of hu.1 rfl (fun x y z w => (by unfold am_u; rw [if_neg (by omega)])), d, i.of rfl (fun x y z => (by unfold am_u; rw [if_neg (by omega)])), l.of rfl rfl (fun _ => rfl) (fun _ => rfl), m, fun z => ⟨(t z).1.of3 (fun x y z w => (by unfold am_u; rw [if_neg (by omega)])), (t z).2.of rfl rfl (fun _ => rfl) (fun _ => rfl)⟩, fun j hj => w j hj⟩
theorem q_HM.mv (hM : q_HM I J s) (r p : Nat) : q_HM (am_u I 60 (3 * r) (nI p)) J (q_mv s r p) := by
  obtain ⟨a', b', c', d', i', l', m', t'⟩ := hM
  exact ⟨a'.mh r p, b'.of rfl (fun _ => rfl), c'.of rfl (fun x y z => (by unfold am_u; rw [if_neg (by omega)])), d', i'.of rfl (fun x y z => (by unfold am_u; rw [if_neg (by omega)])), l'.of rfl rfl (fun _ => rfl) (fun _ => rfl), m', fun z => ⟨(t' z).1, (t' z).2.1, (t' z).2.2.of rfl rfl (fun _ => rfl) (fun _ => rfl)⟩⟩
end QS
/-! ===== tighter bounds ===== -/
theorem q_A_30 {D : q_Rd} {w : Nat → Nat → Nat} (hD : q_ok D) (hwo : q_wok (q_R D) w) (k : Nat) {S r : Nat} (hS : S < 64) (hr : r < q_R D) (hb : S.testBit r = true) : (q_A D w k S r).natAbs ≤ 2 ^ 29 := by
  have hR := hD.1.2.1
  have hW := hD.1.1
  have h1 := q_sec_le hD S r (q_W D) (Nat.le_refl _)
  have hbs := q_bcx_eq S hS
  obtain ⟨w1, w2, w3, w4⟩ := q_wo_f S hS r (by omega)
  have w5 := w4 hb
  have h2 := q_os_le (D := D) (r := r) hD (k := q_bc S - 1) (o := q_wo S r) (by omega) (by omega) (by omega) (q_wo S r + 1) (by omega)
  have hcl := q_cost_le hD S
  have hwl := hwo r (q_bc S) hr
  unfold q_A q_ord
  by_cases k0 : k = 0
  · rw [if_pos k0]
    omega
  · rw [if_neg k0]
    by_cases k1 : k = 1
    · rw [if_pos k1]
      omega
    · rw [if_neg k1]
      have h3 : (if 0 < q_sw w (q_bc S) S (q_R D) then w r (q_bc S) else 1) ≤ 7200 := by split <;> omega
      have h4 := Nat.mul_le_mul h3 hcl
      omega
theorem q_KB_16 {D : q_Rd} {w : Nat → Nat → Nat} (hD : q_ok D) (hwo : q_wok (q_R D) w) (k : Nat) {S : Nat} (hS : S < 64) (hS0 : 0 < S) : 0 < q_B D w k S ∧ q_B D w k S ≤ 43200 ∧ q_K k S * q_B D w k S ≤ 43200 := by
  have hR := hD.1.2.1
  have hbs := q_bcx_eq S hS
  obtain ⟨f1, f2, f3, f4⟩ := q_fac_F (q_bc S) hbs.2.1
  have hsl := q_sw_le hwo (q_bc S) S (q_R D) (Nat.le_refl _)
  have := hbs.2.2 hS0
  have hk := Nat.div_mul_le_self 720 (q_fac (q_bc S))
  unfold q_B q_K
  by_cases k0 : k = 0
  · subst k0
    simp
  · rw [if_neg k0]
    by_cases k1 : k = 1
    · rw [if_pos k1, if_pos k1]
      omega
    · rw [if_neg k1, if_neg k1]
      split <;> omega
theorem q_kk {K a b c d : Int} (hK : 0 < K) : K * a * (K * b) < K * c * (K * d) ↔ a * b < c * d := by
  have e : ∀ x y : Int, K * x * (K * y) = K * K * (x * y) := fun x y => by rw [Int.mul_assoc, Int.mul_left_comm x K y, ← Int.mul_assoc]
  rw [e, e, Int.mul_lt_mul_left (Int.mul_pos hK hK)]
