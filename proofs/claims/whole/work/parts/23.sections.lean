/-! ===== the reference's sections ===== -/
theorem q_ms_congr {t : Nat → Nat} {a b : Nat} : ∀ w, (∀ i, 1 ≤ i → i ≤ w → a.testBit i = b.testBit i) → q_ms t a w = q_ms t b w
  | 0, _ => rfl
  | w + 1, h => by rw [q_ms, q_ms, q_ms_congr w (fun i a b => h i a (by omega)), h (w + 1) (by omega) (by omega)]
/-- one way more, above all others -/
theorem q_ms_top {t : Nat → Nat} {a p : Nat} (ha : a < 2 ^ p) (h1 : 1 ≤ p) : ∀ w, p ≤ w → q_ms t (2 ^ p ||| a) w = q_ms t a w + t p := by
  intro w hw
  induction w with
  | zero => omega
  | succ w ih =>
    rw [q_ms, q_ms]
    by_cases h : p ≤ w
    · have e : (2 ^ p ||| a).testBit (w + 1) = a.testBit (w + 1) := by
        rw [Nat.testBit_or, Nat.testBit_two_pow]
        have : p ≠ w + 1 := by omega
        simp [this]
      rw [ih h, e]
      omega
    · have e : p = w + 1 := by omega
      subst e
      have e1 : (2 ^ (w + 1) ||| a).testBit (w + 1) = true := by rw [Nat.testBit_or, Nat.testBit_two_pow]; simp
      have e2 : a.testBit (w + 1) = false := Nat.testBit_lt_two_pow ha
      have e3 : q_ms t (2 ^ (w + 1) ||| a) w = q_ms t a w := q_ms_congr w (fun i h1 h2 => by
        rw [Nat.testBit_or, Nat.testBit_two_pow]
        have : w + 1 ≠ i := by omega
        simp [this])
      rw [e1, e2, e3, if_pos rfl, if_neg (by decide)]
      rfl
theorem q_ms_path {D : q_Rd} (hD : q_ok D) {t : Nat → Nat} {p : Nat} (h1 : 1 ≤ p) (hp : p ≤ q_W D) : q_ms t (q_path (q_fr D) p) (q_W D) = q_ms t (q_path (q_fr D) (q_fr D p)) (q_W D) + t p := by
  rw [q_path_s hD.1.1 hD.fr h1 hp]
  have h2 := hD.fr p h1 hp
  exact q_ms_top (Nat.lt_of_lt_of_le (q_path_lt hD.1.1 hD.fr (q_fr D p) (by omega)) (Nat.pow_le_pow_right (by omega) (by omega))) h1 _ hp
/-- what a way adds to a share by sections -/
def q_st (D : q_Rd) (S w : Nat) : Nat := if 0 < q_on D S w (q_R D) then q_pr D * q_mi D w * (60 / q_on D S w (q_R D)) else 0
theorem q_sec_ms (D : q_Rd) (S r : Nat) : ∀ w, q_sec D S r w = q_pr D * q_nm D (q_mf D S) * (60 / q_bc S) + q_ms (q_st D S) (q_path (q_fr D) (q_ho D r)) w
  | 0 => rfl
  | w + 1 => by
    rw [q_sec, q_ms, q_sec_ms D S r w, q_st, Nat.add_assoc]
    congr 2
    by_cases h1 : (q_path (q_fr D) (q_ho D r)).testBit (w + 1) = true <;> by_cases h2 : 0 < q_on D S (w + 1) (q_R D) <;> simp [h1, h2]
theorem q_on_of {D : q_Rd} {S r w : Nat} (hS : S.testBit r = true) (hb : (q_path (q_fr D) (q_ho D r)).testBit w = true) : ∀ R, r < R → 0 < q_on D S w R
  | 0, h => by omega
  | R + 1, h => by
    rw [q_on]
    by_cases e : r = R
    · subst e
      rw [if_pos hS, if_pos hb]; omega
    · have := q_on_of hS hb R (by omega)
      split <;> omega
theorem q_dvd60 : ∀ c, 0 < c → c ≤ 6 → c ∣ 60 := by
  intro c h1 h2
  rcases (show c = 1 ∨ c = 2 ∨ c = 3 ∨ c = 4 ∨ c = 5 ∨ c = 6 by omega) with rfl | rfl | rfl | rfl | rfl | rfl <;> decide
theorem lN_ne0 {k : Nat} (h0 : 0 < k) (h : k < 2 ^ 31) : ¬ lN k = 0 := fun z => by
  have := (lN_eq (a := k) (b := 0) h (by omega)).mp z
  omega
section QM3
variable {n : Nat} {I : Nat → Nat → Int32} {T : Nat} {D : q_Rd}
theorem m_sec_climb (hn : 300 ≤ n) (hD : q_ok D) (h : q_RM I D) {S r : Nat} (hS : S < 64) (hr : r < q_R D) (hb : S.testBit r = true) {k : (Nat → Nat → Int32) → (Nat → Nat → Int64) → Nat → Int32 → Int32 → Int64 → Int32 → Option (Nat → Nat → Int64)} {x2 : Int32} {y3 : Int64} :
    ∀ (m p v : Nat) (J : Nat → Nat → Int64), p ≤ q_W D → p < m → (∀ w, (q_path (q_fr D) p).testBit w = true → (q_path (q_fr D) (q_ho D r)).testBit w = true) → J 66 r = lN v → v + q_ms (q_st D S) (q_path (q_fr D) p) (q_W D) < 2 ^ 30 → ∃ J', f_X12_bySections_77 n k m I J T (nI S) x2 y3 (nI r) (nI p) = k I J' T (nI S) x2 y3 (nI r + 1) ∧ J' 66 r = lN (v + q_ms (q_st D S) (q_path (q_fr D) p) (q_W D)) ∧ ∀ a c, ¬ (a = 66 ∧ c = r) → J' a c = J a c := by
  intro m
  induction m with
  | zero => intro p v J _ h; omega
  | succ m ih =>
    intro p v J hp hm hsub hJ hlt
    have hW := hD.1.1
    have hR := hD.1.2.1
    rw [f_X12_bySections_77]
    by_cases h0 : p = 0
    · subst h0
      refine ⟨J, ?_, ?_, fun _ _ _ => rfl⟩
      · rw [if_pos (by decide)]; rfl
      · have e : q_ms (q_st D S) (q_path (q_fr D) 0) (q_W D) = 0 := by
          have : ∀ w, q_ms (q_st D S) 0 w = 0 := by
            intro w
            induction w with
            | zero => rfl
            | succ w ih => rw [q_ms, ih]; simp
          exact this _
        rw [e]; exact hJ
    · have h1 : 1 ≤ p := by omega
      have hfr := hD.fr p h1 hp
      have hps := q_ms_path hD (t := q_st D S) h1 hp
      have hpb : (q_path (q_fr D) p).testBit p = true := by rw [q_path_bit hD p p hp h1, if_neg (by omega), if_pos rfl]
      have hon := q_on_of hb (hsub p hpb) (q_R D) hr
      have honl := q_on_le D S p (q_R D)
      have hm1 := (hD.2.1 p h1 hp).2.2
      have hm2 := hD.1.2.2.2.1
      have hm3 : q_pr D * q_mi D p ≤ 20 * 20 := Nat.mul_le_mul hm2 hm1
      have hst : q_st D S p = 60 * q_pr D * q_mi D p / q_on D S p (q_R D) := by
        rw [q_st, if_pos hon, Nat.mul_assoc 60, Nat.mul_comm 60, Nat.mul_div_assoc _ (q_dvd60 _ hon (by omega))]
      have hm4 : 60 * q_pr D * q_mi D p ≤ 24000 := by rw [Nat.mul_assoc]; omega
      rw [if_neg (nI_nle (by omega) (by omega)), if_pos (q_ix (by omega) (by omega)), if_pos (q_ix (by omega) (by omega)), m_isOn hn hD h (by omega) h1 (by omega), Option.bind_some, nI_l (by omega), if_pos (lN_ne0 hon (by omega)), Option.bind_some, if_pos (q_ix (by omega) (by omega)), if_pos (q_ix (by omega) (by omega)), q_cl (by omega), q_cl (by omega), (h.2.1 p h1 hp).2, (h.2.1 p h1 hp).1, h.1.2.2.2.1, nI_l (by omega), nI_l (by omega), show (60 : Int64) = lN 60 from rfl, lN_mul, lN_mul, pk_lDiv (by omega) hon (by omega), hJ, lN_add, ← hst]
      obtain ⟨J', e1, e2, e3⟩ := ih (q_fr D p) (v + q_st D S p) (am_u J 66 r (lN (v + q_st D S p))) (by omega) (by omega) (fun w hw => hsub w (by
        by_cases hw1 : 1 ≤ w
        · rw [q_path_s hW hD.fr h1 hp, Nat.testBit_or, hw, Bool.or_true]
        · have hw0 : w = 0 := by omega
          subst hw0
          rw [q_path_s hW hD.fr h1 hp, Nat.testBit_or, hw, Bool.or_true])) (by simp [am_u]) (by omega)
      refine ⟨J', e1, ?_, fun a c hac => ?_⟩
      · rw [e2, hps]; congr 1; omega
      · rw [e3 a c hac]
        unfold am_u
        rw [if_neg hac]
/-- what is laid for the riders below r of S, over what was there -/
def q_lay (J0 J : Nat → Nat → Int64) (S r : Nat) (v : Nat → Nat) : Prop := (∀ i, i < r → S.testBit i = true → J 66 i = lN (v i)) ∧ (∀ i, ¬ (i < r ∧ S.testBit i = true) → J 66 i = J0 66 i) ∧ ∀ a c, a ≠ 66 → J a c = J0 a c
theorem m_sec_loop (hn : 300 ≤ n) (hD : q_ok D) (h : q_RM I D) {S : Nat} (hS : S < 64) (hS0 : 0 < S) (J0 : Nat → Nat → Int64) : ∀ (m r : Nat) (J : Nat → Nat → Int64), r ≤ q_R D → q_R D - r < m → q_lay J0 J S r (fun i => q_sec D S i (q_W D)) →
    ∃ J', f_X12_bySections_30 n m I J T (nI S) (nI (q_bc S)) (lN (q_pr D * q_nm D (q_mf D S))) (nI r) = some J' ∧ q_lay J0 J' S (q_R D) (fun i => q_sec D S i (q_W D)) := by
  intro m
  induction m with
  | zero => intro r J _ h; omega
  | succ m ih =>
    intro r J hr hm hL
    have hW := hD.1.1
    have hR := hD.1.2.1
    have hbc := q_bcx_eq S hS
    rw [f_X12_bySections_30, h.1.2.1]
    by_cases h1 : r = q_R D
    · subst h1
      rw [if_pos (Int32.le_refl _)]
      exact ⟨J, rfl, hL⟩
    · rw [if_neg (nI_ge (by omega) (by omega)), m_has (by omega) (by omega)]
      have h2 := hD.2.2 r (by omega)
      have e3 : (3 : Int32) * nI r = nI (3 * r) := pk_mul 3 r
      have hnm := q_nm_le hD S
      have hb3 : q_pr D * q_nm D (q_mf D S) ≤ 20 * 180 := Nat.mul_le_mul hD.1.2.2.2.1 hnm
      by_cases hb : S.testBit r = true
      · rw [if_pos hb, Option.bind_some, if_neg (by decide), nI_l (by omega), if_pos (lN_ne0 (hbc.2.2 hS0) (by omega)), if_pos (q_ix (by omega) (by omega)), e3, if_pos (q_ix (by omega) (by omega)), q_cl (by omega), q_cl (by omega), (h.2.2 r (by omega)).1, show (60 : Int64) = lN 60 from rfl, lN_mul, pk_lDiv (by omega) (hbc.2.2 hS0) (by omega)]
        have hdv : q_pr D * q_nm D (q_mf D S) * 60 / q_bc S = q_pr D * q_nm D (q_mf D S) * (60 / q_bc S) := Nat.mul_div_assoc _ (q_dvd60 _ (hbc.2.2 hS0) hbc.2.1)
        have hsl := q_sec_le hD S r (q_W D) (Nat.le_refl _)
        have hsm := q_sec_ms D S r (q_W D)
        rw [hdv]
        obtain ⟨J', e4, e5, e6⟩ := m_sec_climb (T := T) hn hD h hS (by omega) hb (k := f_X12_bySections_30 n m) (x2 := nI (q_bc S)) (y3 := lN (q_pr D * q_nm D (q_mf D S))) n (q_ho D r) (q_pr D * q_nm D (q_mf D S) * (60 / q_bc S)) (am_u J 66 r (lN (q_pr D * q_nm D (q_mf D S) * (60 / q_bc S)))) h2.2.1 (by omega) (fun _ h => h) (by simp [am_u]) (by omega)
        rw [e4, nI_1]
        refine ih (r + 1) J' (by omega) (by omega) ⟨fun i hi hbi => ?_, fun i hi => ?_, fun a c ha => ?_⟩
        · by_cases hir : i = r
          · subst hir
            show _ = lN (q_sec D S i (q_W D))
            rw [e5, hsm]
          · rw [e6 66 i (fun z => hir z.2)]
            unfold am_u
            rw [if_neg (fun z => hir z.2)]
            exact hL.1 i (by omega) hbi
        · have hir : i ≠ r := fun z => hi ⟨by omega, by rw [z]; exact hb⟩
          rw [e6 66 i (fun z => hir z.2)]
          unfold am_u
          rw [if_neg (fun z => hir z.2)]
          exact hL.2.1 i (fun z => hi ⟨by omega, z.2⟩)
        · rw [e6 a c (fun z => ha z.1)]
          unfold am_u
          rw [if_neg (fun z => ha z.1)]
          exact hL.2.2 a c ha
      · rw [if_neg hb, Option.bind_some, if_pos rfl]
        unfold f_X12_bySections_133
        rw [nI_1]
        refine ih (r + 1) J (by omega) (by omega) ⟨fun i hi hbi => ?_, fun i hi => ?_, hL.2.2⟩
        · exact hL.1 i (by
            rcases Nat.lt_or_ge i r with z | z
            · exact z
            · have : i = r := by omega
              rw [this] at hbi
              exact absurd hbi hb) hbi
        · exact hL.2.1 i (fun z => hi ⟨by omega, z.2⟩)
theorem m_bySections (hn : 300 ≤ n) (hD : q_ok D) (h : q_RM I D) {S : Nat} (hS : S < 64) (hS0 : 0 < S) (J : Nat → Nat → Int64) : ∃ J', f_X12_bySections n I J T (nI S) (nI (q_bc S)) = some J' ∧ q_lay (am_u J 53 33 60) J' S (q_R D) (fun i => q_sec D S i (q_W D)) := by
  have hmf := q_mf_le hD S
  have hnm := q_nm_le hD S
  have hb3 : q_pr D * q_nm D (q_mf D S) ≤ 20 * 180 := Nat.mul_le_mul hD.1.2.2.2.1 hnm
  have hb4 : q_pr D * q_mf D S ≤ 20 * 180 := Nat.mul_le_mul hD.1.2.2.2.1 hmf
  unfold f_X12_bySections
  rw [m_costOf hn hD h (by omega), Option.bind_some, m_milesOf hn hD h (by omega), Option.bind_some, h.1.2.2.2.1, pk_mul]
  have e : nI (q_cost D S) - nI (q_pr D * q_mf D S) = nI (q_pr D * q_nm D (q_mf D S)) := by
    rw [q_cost, Nat.mul_add, pk_sub (by omega)]
    congr 1
    omega
  rw [e, nI_l (by omega)]
  exact m_sec_loop hn hD h hS hS0 _ n 0 _ (Nat.zero_le _) (by have := hD.1.2.1; omega) ⟨fun i hi => by omega, fun _ _ => rfl, fun _ _ _ => rfl⟩
end QM3
