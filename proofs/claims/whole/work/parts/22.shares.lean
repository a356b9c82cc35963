/-! ===== the class's shares: bits counted, comers, sections ===== -/
def q_bcx (x0 : Int32) : Int32 :=
  let u1 := ((x0 - ((am_ush x0 1) &&& 1431655765)) &&& 858993459) + ((am_ush (x0 - ((am_ush x0 1) &&& 1431655765)) 2) &&& 858993459)
  let u2 := ((u1 + (am_ush u1 4)) &&& 252645135) + (am_ush ((u1 + (am_ush u1 4)) &&& 252645135) 8)
  (u2 + (am_ush u2 16)) &&& 63
/-- how many bits below 6 -/
def q_bc (S : Nat) : Nat := (List.range 6).foldl (fun a r => if S.testBit r then a + 1 else a) 0
theorem q_bcx_eq : ∀ S, S < 64 → q_bcx (nI S) = nI (q_bc S) ∧ q_bc S ≤ 6 ∧ (0 < S → 0 < q_bc S) := by decide +kernel
theorem q_everyone : ∀ R, R ≤ 6 → ((1 : Int32) <<< (nI R &&& 31)) - 1 = nI (2 ^ R - 1) ∧ 2 ^ R - 1 < 64 := by decide +kernel
section QS
variable {n : Nat} {I : Nat → Nat → Int32} {J : Nat → Nat → Int64} {T : Nat} {D : q_Rd}
theorem j_bitCount {S : Nat} (hS : S < 64) : f_J6_bitCount_0f7a4 n I J T (nI S) = some (nI (q_bc S)) := by
  rw [← (q_bcx_eq S hS).1]
  rfl
theorem x_everyone (hD : q_ok D) (h : q_RX I D) : f_X2_everyone n I J T = some (nI (2 ^ q_R D - 1)) := by
  unfold f_X2_everyone
  rw [h.1.2.1, (q_everyone _ hD.1.2.1).1]
theorem m_everybody (hD : q_ok D) (h : q_RM I D) : f_X12_everybody n I J T = some (nI (2 ^ q_R D - 1)) := by
  unfold f_X12_everybody
  rw [h.1.2.1, (q_everyone _ hD.1.2.1).1]
theorem x_comersOn_loop (hn : 300 ≤ n) (hD : q_ok D) (h : q_RX I D) {S w : Nat} (hS : S < 1024) (hw : w < 10) : ∀ (m r : Nat), r ≤ q_R D → q_R D - r < m → f_X2_comersOn_5 n m I J T (nI w) (nI S) (nI (q_on D S w r)) (nI r) = some (nI (q_on D S w (q_R D))) := by
  intro m
  induction m with
  | zero => intro r _ h; omega
  | succ m ih =>
    intro r hr hm
    have hR := hD.1.2.1
    rw [f_X2_comersOn_5, h.1.2.1]
    by_cases h1 : r = q_R D
    · subst h1
      rw [if_pos (Int32.le_refl _)]
    · rw [if_neg (nI_ge (by omega) (by omega)), x_isIn hS (by omega)]
      have h2 := hD.2.2 r (by omega)
      by_cases hb : S.testBit r = true
      · have h3 : q_on D S w (r + 1) = q_on D S w r + (if (q_path (q_fr D) (q_ho D r)).testBit w then 1 else 0) := if_pos hb
        have h5 : q_path (q_fr D) (q_ho D r) < 1024 := Nat.lt_of_lt_of_le (q_path_lt hD.1.1 hD.fr (q_ho D r) h2.2.1) (Nat.pow_le_pow_right (n := 2) (by omega) (show q_ho D r + 1 ≤ 10 by have := hD.1.1; omega))
        rw [if_pos hb, Option.bind_some, if_neg (by decide), if_pos (q_ix (by omega) (by omega)), q_cl (by omega), (h.2.2 r (by omega)).1, x_path hn hD h h2.2.1, Option.bind_some]
        by_cases hp : (q_path (q_fr D) (q_ho D r)).testBit w = true
        · rw [if_pos ((q_has h5 hw).mpr hp)]
          rw [if_pos hp] at h3
          unfold f_X2_comersOn_45
          rw [nI_1, nI_1, ← h3]
          exact ih (r + 1) (by omega) (by omega)
        · rw [if_neg (fun z => hp ((q_has h5 hw).mp z))]
          have h3 : q_on D S w (r + 1) = q_on D S w r := by rw [h3, if_neg hp]; rfl
          unfold f_X2_comersOn_45
          rw [nI_1, ← h3]
          exact ih (r + 1) (by omega) (by omega)
      · have h3 : q_on D S w (r + 1) = q_on D S w r := if_neg hb
        rw [if_neg hb, Option.bind_some, if_pos rfl]
        unfold f_X2_comersOn_45
        rw [nI_1, ← h3]
        exact ih (r + 1) (by omega) (by omega)
theorem x_comersOn (hn : 300 ≤ n) (hD : q_ok D) (h : q_RX I D) {S w : Nat} (hS : S < 1024) (hw : w < 10) : f_X2_comersOn n I J T (nI w) (nI S) = some (nI (q_on D S w (q_R D))) := by
  unfold f_X2_comersOn
  have := hD.1.2.1
  exact x_comersOn_loop hn hD h hS hw n 0 (Nat.zero_le _) (by omega)
theorem x_nightCostFor {S : Nat} (hn : 300 ≤ n) (hD : q_ok D) (h : q_RX I D) (hS : S < 1024) : f_X2_nightCostFor n I J T (nI S) = some (nI (q_pr D * q_nm D (q_mf D S))) := by
  unfold f_X2_nightCostFor
  have := q_mf_le hD S
  rw [x_milesFor hn hD h hS, Option.bind_some, x_nightMiles hD h (by omega), Option.bind_some, h.1.2.2.2.1, pk_mul]
/-- a share by sections, over 60: of the ways up to w -/
def q_sec (D : q_Rd) (S r : Nat) : Nat → Nat
  | 0 => q_pr D * q_nm D (q_mf D S) * (60 / q_bc S)
  | w + 1 => q_sec D S r w + (if (q_path (q_fr D) (q_ho D r)).testBit (w + 1) ∧ 0 < q_on D S (w + 1) (q_R D) then q_pr D * q_mi D (w + 1) * (60 / q_on D S (w + 1) (q_R D)) else 0)
theorem q_nm_le (hD : q_ok D) (S : Nat) : q_nm D (q_mf D S) ≤ 180 := by
  have := q_mf_le hD S
  unfold q_nm
  split <;> omega
theorem q_sec_le (hD : q_ok D) (S r : Nat) : ∀ w, w ≤ q_W D → q_sec D S r w ≤ 216000 + 24000 * w := by
  intro w
  induction w with
  | zero =>
    intro _
    have h1 := q_nm_le hD S
    have h2 := hD.1.2.2.2.1
    have h3 : q_pr D * q_nm D (q_mf D S) ≤ 20 * 180 := Nat.mul_le_mul h2 h1
    have h4 : 60 / q_bc S ≤ 60 := Nat.div_le_self _ _
    have h5 := Nat.mul_le_mul h3 h4
    rw [q_sec]
    omega
  | succ w ih =>
    intro hw
    have h0 := ih (by omega)
    have h1 := (hD.2.1 (w + 1) (by omega) hw).2.2
    have h2 := hD.1.2.2.2.1
    have h3 : q_pr D * q_mi D (w + 1) ≤ 20 * 20 := Nat.mul_le_mul h2 h1
    have h4 : 60 / q_on D S (w + 1) (q_R D) ≤ 60 := Nat.div_le_self _ _
    have h5 := Nat.mul_le_mul h3 h4
    rw [q_sec]
    split <;> omega
theorem x_sec_loop (hn : 300 ≤ n) (hD : q_ok D) (h : q_RX I D) {S r : Nat} (hS : S < 1024) (hr : r < q_R D) : ∀ (m w : Nat), w ≤ q_W D → q_W D - w < m → f_X7_sectionParts_50 n m I J T (nI S) (nI (q_path (q_fr D) (q_ho D r))) (lN (q_sec D S r w)) (nI (w + 1)) = some (lN (q_sec D S r (q_W D))) := by
  intro m
  induction m with
  | zero => intro w _ h; omega
  | succ m ih =>
    intro w hw hm
    have hW := hD.1.1
    have hR := hD.1.2.1
    have h2 := hD.2.2 r hr
    have hpl : q_path (q_fr D) (q_ho D r) < 1024 := Nat.lt_of_lt_of_le (q_path_lt hD.1.1 hD.fr (q_ho D r) h2.2.1) (Nat.pow_le_pow_right (n := 2) (by omega) (show q_ho D r + 1 ≤ 10 by omega))
    rw [f_X7_sectionParts_50, h.1.1]
    by_cases h1 : w = q_W D
    · subst h1
      rw [if_pos (nI_lt (by omega) (by omega))]
    · have h3 : w + 1 ≤ q_W D := by omega
      rw [if_neg (nI_nlt (by omega) (by omega))]
      have hs : q_sec D S r (w + 1) = q_sec D S r w + (if (q_path (q_fr D) (q_ho D r)).testBit (w + 1) ∧ 0 < q_on D S (w + 1) (q_R D) then q_pr D * q_mi D (w + 1) * (60 / q_on D S (w + 1) (q_R D)) else 0) := rfl
      by_cases hb : (q_path (q_fr D) (q_ho D r)).testBit (w + 1) = true
      · rw [if_pos ((q_has hpl (by omega)).mpr hb), x_comersOn hn hD h hS (by omega), Option.bind_some]
        unfold f_X7_sectionParts_87
        have h5 := q_on_le D S (w + 1) (q_R D)
        by_cases hc : 0 < q_on D S (w + 1) (q_R D)
        · have hm1 := (hD.2.1 (w + 1) (by omega) h3).2.2
          have hm2 := hD.1.2.2.2.1
          have hm3 : q_pr D * q_mi D (w + 1) ≤ 20 * 20 := Nat.mul_le_mul hm2 hm1
          have hm4 : 60 / q_on D S (w + 1) (q_R D) ≤ 60 := Nat.div_le_self _ _
          have hm5 := Nat.mul_le_mul hm3 hm4
          rw [if_neg (nI_nle hc (by omega)), if_pos (q_ix (by omega) (by omega)), if_pos (nI_ne0 hc (by omega)), q_cl (by omega), (h.2.1 (w + 1) (by omega) h3).2, h.1.2.2.2.1, pk_mul, show (60 : Int32) = nI 60 from rfl, pk_div (by omega) hc (by omega), pk_mul, nI_l (by omega), lN_add]
          rw [if_pos ⟨hb, hc⟩] at hs
          unfold f_X7_sectionParts_124
          rw [nI_1, ← hs]
          exact ih (w + 1) h3 (by omega)
        · have h6 : q_on D S (w + 1) (q_R D) = 0 := by omega
          rw [h6, if_pos (by decide)]
          have hs : q_sec D S r (w + 1) = q_sec D S r w := by rw [hs, if_neg (fun z => hc z.2)]; rfl
          unfold f_X7_sectionParts_124
          rw [nI_1, ← hs]
          exact ih (w + 1) h3 (by omega)
      · rw [if_neg (fun z => hb ((q_has hpl (by omega)).mp z))]
        unfold f_X7_sectionParts_87
        rw [if_pos (by decide)]
        have hs : q_sec D S r (w + 1) = q_sec D S r w := by rw [hs, if_neg (fun z => hb z.1)]; rfl
        unfold f_X7_sectionParts_124
        rw [nI_1, ← hs]
        exact ih (w + 1) h3 (by omega)
theorem x_sectionParts (hn : 300 ≤ n) (hD : q_ok D) (h : q_RX I D) {S r : Nat} (hS : S < 64) (hS0 : 0 < S) (hr : r < q_R D) : f_X7_sectionParts n I J T (nI r) (nI S) = some (lN (q_sec D S r (q_W D))) := by
  have hW := hD.1.1
  have hR := hD.1.2.1
  have h2 := hD.2.2 r hr
  have hb := q_bcx_eq S hS
  have h1 := q_nm_le hD S
  have h3 : q_pr D * q_nm D (q_mf D S) ≤ 20 * 180 := Nat.mul_le_mul hD.1.2.2.2.1 h1
  have h4 : 60 / q_bc S ≤ 60 := Nat.div_le_self _ _
  have h5 := Nat.mul_le_mul h3 h4
  unfold f_X7_sectionParts
  rw [j_bitCount hS, Option.bind_some, if_pos (q_ix (by omega) (by omega)), q_cl (by omega), (h.2.2 r hr).1, x_path hn hD h h2.2.1, Option.bind_some, if_neg (nI_nle (hb.2.2 hS0) (by omega)), x_nightCostFor hn hD h (by omega), Option.bind_some, if_pos (nI_ne0 (hb.2.2 hS0) (by omega)), show (60 : Int32) = nI 60 from rfl, pk_div (by omega) (hb.2.2 hS0) (by omega), pk_mul, nI_l (by omega)]
  unfold f_X7_sectionParts_45
  exact x_sec_loop hn hD h (by omega) hr n 0 (Nat.zero_le _) (by omega)
end QS
