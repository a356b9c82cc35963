/-! ===== all ways to put all in coaches: the reference's walk ===== -/
/-- cells that its judges may write -/
def q_jx (a b : Nat) : Prop := a = 57 ∨ (a = 53 ∧ ((8 ≤ b ∧ b ≤ 25) ∨ b = 37 ∨ b = 38 ∨ b = 43 ∨ b = 44))
def q_CM (I : Nat → Nat → Int32) (c : Nat → Nat) (r : Nat) : Prop := (∀ j, j < 7 → I 70 j = nI (q_cst c j r)) ∧ ∀ i, i < r → I 69 i = nI (c i)
section QW
variable {n : Nat} {D : q_Rd} {J : Nat → Nat → Int64} {T : Nat}
theorem m_seats_loop {I : Nat → Nat → Int32} (hD : q_ok D) (hx : q_RM I D) {S : Nat} (hS : S < 1024) : ∀ (m i : Nat), i ≤ q_R D → q_R D - i < m → f_X12_seatsOf_4 n m I J T (nI S) (nI (q_sts D S i)) (nI i) = some (nI (q_sts D S (q_R D))) := by
  have hR := hD.1.2.1
  intro m
  induction m with
  | zero => intro i _ h; omega
  | succ m ih =>
    intro i hi hm
    rw [f_X12_seatsOf_4, hx.1.2.1]
    by_cases e : i = q_R D
    · subst e
      rw [if_pos (Int32.le_refl _)]
    · have e3 : (3 : Int32) * nI i + 2 = nI (3 * i + 2) := by
        rw [show (3 : Int32) * nI i = nI (3 * i) from pk_mul 3 i, show (2 : Int32) = nI 2 from rfl, nI_add]
      have hcl2 : (nI (3 * i + 2)).toNatClampNeg = 3 * i + 2 := q_cl (by omega)
      have hix2 : ok_ix (nI (3 * i + 2)) 18 := q_ix (by omega) (by omega)
      rw [if_neg (nI_ge (by omega) (by omega)), m_has (by omega) (by omega), Option.bind_some]
      unfold f_X12_seatsOf_35
      have es : q_sts D S (i + 1) = q_sts D S i + (if S.testBit i = true then q_se D i else 0) := rfl
      by_cases hb : S.testBit i = true
      · rw [if_pos hb] at es
        rw [if_pos hb, if_neg (by exact q_10), e3, if_pos hix2, hcl2, (hx.2.2 i (by omega)).2.2, nI_add, nI_1, ← es]
        exact ih (i + 1) (by omega) (by omega)
      · have es' : q_sts D S (i + 1) = q_sts D S i := by
          rw [es, if_neg hb]
          rfl
        rw [if_neg hb, if_pos rfl, Int32.add_zero, nI_1, ← es']
        exact ih (i + 1) (by omega) (by omega)
theorem m_seatsOf {I : Nat → Nat → Int32} (hn : 300 ≤ n) (hD : q_ok D) (hx : q_RM I D) {S : Nat} (hS : S < 1024) : f_X12_seatsOf n I J T (nI S) = some (nI (q_sts D S (q_R D))) := m_seats_loop hD hx hS n 0 (Nat.zero_le _) (by have := hD.1.2.1; omega)
end QW
section QS
variable {n B : Nat} {s : q_Sg}
theorem m_goC {α : Type} (hn : 300 ≤ n) (hs : q_sok B s) (leaf : (Nat → Nat) → Nat → α → α) (P : α → Int32 → Int32 → Int32 → Int32 → Prop) (Z : (Nat → Nat → Int32) → Prop) (x : Int32) (hZ : ∀ I I', Z I → (∀ b, ¬ q_jx 53 b → I' 53 b = I 53 b) → Z I') (hleaf : ∀ (c : Nat → Nat) (u : Nat) (I : Nat → Nat → Int32) (J : Nat → Nat → Int64) (T : Nat) (st : α), u ≤ q_R (q_sD s) → (∀ i, i < q_R (q_sD s) → c i < u) → q_HM I J s → q_CM I c (q_R (q_sD s)) → Z I → (T = 54 ∨ T = 55) → P st (I 53 37) (I 53 38) (I 53 43) (I 53 44) → ∃ I' J' T', (if x = 0 then (f_X12_judgeCost n I J T (nI u)).bind fun w3 => some (w3, J, T) else (f_X12_judgeSteady n I J T (nI u)).bind fun w4 => some (w4.1, w4.2.1, w4.2.2)) = some (I', J', T') ∧ P (leaf c u st) (I' 53 37) (I' 53 38) (I' 53 43) (I' 53 44) ∧ (T' = 54 ∨ T' = 55) ∧ (∀ a b, ¬ q_jx a b → I' a b = I a b) ∧ ∀ a b, a ≠ 66 → ¬ (a = 53 ∧ b = 33) → J' a b = J a b) : ∀ (f m r : Nat) (c : Nat → Nat) (u : Nat) (I : Nat → Nat → Int32) (J : Nat → Nat → Int64) (T : Nat) (st : α), r + f = q_R (q_sD s) → f < m → u ≤ r → (∀ i, i < r → c i < u) → q_HM I J s → q_CM I c r → Z I → (T = 54 ∨ T = 55) → P st (I 53 37) (I 53 38) (I 53 43) (I 53 44) → ∃ I' J' T', fx_X12_goCoaches n m I J T (nI r) (nI u) x = some (I', J', T') ∧ P (q_en (q_sD s) leaf f r c u st) (I' 53 37) (I' 53 38) (I' 53 43) (I' 53 44) ∧ (T' = 54 ∨ T' = 55) ∧ (∀ a b, a ≠ 69 → ¬ q_jx a b → I' a b = I a b) ∧ (∀ i, i < r → I' 69 i = I 69 i) ∧ ∀ a b, a ≠ 66 → ¬ (a = 53 ∧ b = 33) → J' a b = J a b := by
  have hD := hs.1.1
  have hR := hD.1.2.1
  have hfr : ∀ {I I' : Nat → Nat → Int32} {J J' : Nat → Nat → Int64}, q_HM I J s → (∀ a b, a ≠ 69 → a ≠ 70 → ¬ q_jx a b → I' a b = I a b) → (∀ a b, a ≠ 66 → ¬ (a = 53 ∧ b = 33) → J' a b = J a b) → q_HM I' J' s := fun h f g => h.of (fun k hk => f 53 k (by omega) (by omega) (fun z => by unfold q_jx at z; omega)) (fun a k hk => f a k (by omega) (by omega) (fun z => by unfold q_jx at z; omega)) (fun a k hk => g a k (by omega) (by omega))
  intro f
  induction f with
  | zero =>
    intro m r c u I J T st h1 h2 h3 h4 hM hc hz hT hP
    obtain ⟨m, rfl⟩ : ∃ z, m = z + 1 := ⟨m - 1, by omega⟩
    have e : r = q_R (q_sD s) := by omega
    subst e
    obtain ⟨I', J', T', f1, f2, f3, f4, f5⟩ := hleaf c u I J T st h3 h4 hM hc hz hT hP
    unfold fx_X12_goCoaches fb_X12_goCoaches
    rw [hM.1.1.2.1, if_pos rfl]
    exact ⟨I', J', T', f1, f2, f3, fun a b _ h => f4 a b h, fun i _ => f4 69 i (fun z => by unfold q_jx at z; omega), f5⟩
  | succ f ih =>
    intro m r c u I J T st h1 h2 h3 h4 hM hc hz hT hP
    obtain ⟨m, rfl⟩ : ∃ z, m = z + 1 := ⟨m - 1, by omega⟩
    have loop : ∀ (k j : Nat) (I : Nat → Nat → Int32) (J : Nat → Nat → Int64) (T : Nat) (st : α), j ≤ u + 1 → u + 1 - j < k → q_HM I J s → q_CM I c r → Z I → (T = 54 ∨ T = 55) → P st (I 53 37) (I 53 38) (I 53 43) (I 53 44) → ∃ I' J' T', f_X12_goCoaches_29 n (fx_X12_goCoaches n m) k I J T (nI r) (nI u) x (nI j) = some (I', J', T') ∧ P (q_gl (fun j => q_room (q_sD s) (q_cst c j r) r) (fun j st => q_en (q_sD s) leaf f (r + 1) (q_tu c r j) (if j = u then u + 1 else u) st) (u + 1 - j) j st) (I' 53 37) (I' 53 38) (I' 53 43) (I' 53 44) ∧ (T' = 54 ∨ T' = 55) ∧ (∀ a b, a ≠ 69 → ¬ q_jx a b → I' a b = I a b) ∧ (∀ i, i < r → I' 69 i = I 69 i) ∧ ∀ a b, a ≠ 66 → ¬ (a = 53 ∧ b = 33) → J' a b = J a b := by
      intro k
      induction k with
      | zero => intro j I J T st _ h; omega
      | succ k ihk =>
        intro j I J T st hj hk hM hc hz hT hP
        rw [f_X12_goCoaches_29]
        by_cases e : j = u + 1
        · subst e
          rw [if_pos (nI_lt (by omega) (by omega)), Nat.sub_self]
          exact ⟨I, J, T, rfl, hP, hT, fun _ _ _ _ => rfl, fun _ _ => rfl, fun _ _ _ _ => rfl⟩
        · obtain ⟨g, hg⟩ : ∃ g, u + 1 - j = g + 1 := ⟨u + 1 - j - 1, by omega⟩
          have hg' : u + 1 - (j + 1) = g := by omega
          have hrR : r < q_R (q_sD s) := by omega
          have hix : ok_ix (nI j) 7 := q_ix (by omega) (by omega)
          have hcl : (nI j).toNatClampNeg = j := q_cl (by omega)
          have hix2 : ok_ix (nI r) 6 := q_ix (by omega) (by omega)
          have hcl2 : (nI r).toNatClampNeg = r := q_cl (by omega)
          obtain ⟨s1, s2⟩ := q_shl6 r (by omega)
          have hsl := q_cst_lt c j r
          have hs64 : 2 ^ r ≤ 2 ^ 6 := Nat.pow_le_pow_right (by omega) (by omega)
          have hnb := q_cst_nb c j r
          have hso := q_sts_or (q_sD s) hnb (q_R (q_sD s))
          rw [if_pos hrR] at hso
          have hse := (hD.2.2 r hrR).2.2.2.2
          have hcs := hD.1.2.2.1
          have hsl2 := q_sts_le hD (q_cst c j r) (q_R (q_sD s)) (Nat.le_refl _)
          have horl : q_cst c j r ||| 2 ^ r < 2 ^ 6 := Nat.or_lt_two_pow (n := 6) (by omega) (by omega)
          rw [if_neg (nI_nlt (by omega) (by omega))]
          simp only [if_pos hix, if_pos hix2, hcl, hcl2, hc.1 j (by omega)]
          rw [s1, q_or, m_seatsOf hn hD hM.1 (by omega), Option.bind_some, hg, hM.1.1.2.2.1, hso]
          unfold f_X12_goCoaches_119 q_gl
          have hiff : (nI (q_sts (q_sD s) (q_cst c j r) (q_R (q_sD s)) + q_se (q_sD s) r) ≤ nI (q_cs (q_sD s))) ↔ q_room (q_sD s) (q_cst c j r) r = true := by
            unfold q_room
            rw [decide_eq_true_eq]
            constructor
            · intro z
              apply Classical.byContradiction
              intro hno
              exact nI_ge (show q_cs (q_sD s) < q_sts (q_sD s) (q_cst c j r) (q_R (q_sD s)) + q_se (q_sD s) r by omega) (by omega) z
            · intro z
              exact nI_le z (by omega)
          by_cases hb : q_room (q_sD s) (q_cst c j r) r = true
          · obtain ⟨I1, hI1⟩ : ∃ z, z = am_u (am_u I 70 j (nI (q_cst c j r ||| 2 ^ r))) 69 r (nI j) := ⟨_, rfl⟩
            have hI1f : ∀ a b, a ≠ 69 → a ≠ 70 → I1 a b = I a b := fun a b h h' => by
              rw [hI1]
              unfold am_u
              rw [if_neg (by omega), if_neg (by omega)]
            have hM1 : q_HM I1 J s := hfr hM (fun a b h h' _ => hI1f a b h h') (fun _ _ _ _ => rfl)
            have hc1 : q_CM I1 (q_tu c r j) (r + 1) := by
              refine ⟨fun i hi => ?_, fun i hi => ?_⟩
              · rw [q_cst_tu]
                by_cases ei : j = i
                · subst ei
                  rw [if_pos rfl, hI1]
                  simp [am_u]
                · rw [if_neg ei, ← hc.1 i hi, hI1]
                  unfold am_u
                  rw [if_neg (by omega), if_neg (by omega)]
              · unfold q_tu
                by_cases ei : i = r
                · rw [if_pos ei, hI1, ei]
                  simp [am_u]
                · rw [if_neg ei, ← hc.2 i (by omega), hI1]
                  unfold am_u
                  rw [if_neg (by omega), if_neg (by omega)]
            have hz1 : Z I1 := hZ I I1 hz (fun b _ => hI1f 53 b (by omega) (by omega))
            have h4' : ∀ i, i < r + 1 → q_tu c r j i < (if j = u then u + 1 else u) := fun i hi => by
              unfold q_tu
              by_cases ei : i = r
              · rw [if_pos ei]; split <;> omega
              · rw [if_neg ei]
                have := h4 i (by omega)
                split <;> omega
            have hu' : (if j = u then u + 1 else u) ≤ r + 1 := by split <;> omega
            obtain ⟨I2, J2, T2, e1, e2, e3, e4, e5, e6⟩ := ih m (r + 1) (q_tu c r j) (if j = u then u + 1 else u) I1 J T st (by omega) (by omega) hu' h4' hM1 hc1 hz1 hT (by rw [hI1f 53 37 (by omega) (by omega), hI1f 53 38 (by omega) (by omega), hI1f 53 43 (by omega) (by omega), hI1f 53 44 (by omega) (by omega)]; exact hP)
            have e70 : I2 70 j = nI (q_cst c j r ||| 2 ^ r) := by
              rw [e4 70 j (by omega) (fun z => by unfold q_jx at z; omega), hI1]
              simp [am_u]
            have ea : nI (q_cst c j r ||| 2 ^ r) &&& (nI (2 ^ r) ^^^ (-1)) = nI (q_cst c j r) := by
              rw [← s1, q_anr (by omega) (by omega), q_orm (by omega) (by omega) hnb]
            obtain ⟨I3, hI3⟩ : ∃ z, z = am_u I2 70 j (nI (q_cst c j r)) := ⟨_, rfl⟩
            have hI3a : ∀ a b, a ≠ 69 → ¬ q_jx a b → I3 a b = I a b := fun a b h h' => by
              rw [hI3]
              by_cases h70 : a = 70 ∧ b = j
              · rw [h70.1, h70.2, hc.1 j (by omega)]
                simp [am_u]
              · have z1 := e4 a b h h'
                rw [hI1] at z1
                unfold am_u at z1 ⊢
                rw [if_neg h70]
                rw [if_neg (by omega), if_neg h70] at z1
                exact z1
            have hI3b : ∀ i, i < r → I3 69 i = I 69 i := fun i hi => by
              have z1 := e5 i (by omega)
              rw [hI1] at z1
              rw [hI3]
              unfold am_u at z1 ⊢
              rw [if_neg (by omega)]
              rw [if_neg (by omega), if_neg (by omega)] at z1
              exact z1
            have h53 : ∀ b, I3 53 b = I2 53 b := fun b => by
              rw [hI3]
              unfold am_u
              rw [if_neg (by omega)]
            have tail : ∀ t1 t2 : Int32, t1 = nI (r + 1) → t2 = nI (if j = u then u + 1 else u) → f_X12_goCoaches_100 n (fx_X12_goCoaches n m) (f_X12_goCoaches_29 n (fx_X12_goCoaches n m) k) I1 J T (nI r) (nI u) x (nI j) t1 t2 = f_X12_goCoaches_29 n (fx_X12_goCoaches n m) k I3 J2 T2 (nI r) (nI u) x (nI (j + 1)) := by
              intro t1 t2 h1 h2
              unfold f_X12_goCoaches_100 f_X12_goCoaches_119
              rw [h1, h2, e1, Option.bind_some]
              simp only [if_pos hix, hcl, e70]
              rw [s1, ea, ← hI3, nI_1]
            rw [if_pos (hiff.mpr hb), if_pos hb, ← hI1]
            simp only [nI_1]
            obtain ⟨I', J', T', f1, f2, f3, f4, f5, f6⟩ := ihk (j + 1) I3 J2 T2 _ (by omega) (by omega) (hfr hM (fun a b h _ h' => hI3a a b h h') e6) ⟨fun i hi => by rw [hI3a 70 i (by omega) (fun z => by unfold q_jx at z; omega)]; exact hc.1 i hi, fun i hi => by rw [hI3b i hi]; exact hc.2 i hi⟩ (hZ I I3 hz (fun b h => hI3a 53 b (by omega) h)) e3 (by rw [h53, h53, h53, h53]; exact e2)
            rw [hg'] at f2
            by_cases eu : j = u
            · rw [if_pos (show nI j = nI u by rw [eu]), tail (nI (r + 1)) (nI (u + 1)) rfl (by rw [if_pos eu]), f1]
              exact ⟨I', J', T', rfl, f2, f3, fun a b h h' => by rw [f4 a b h h']; exact hI3a a b h h', fun i hi => by rw [f5 i hi]; exact hI3b i hi, fun a b h h' => by rw [f6 a b h h']; exact e6 a b h h'⟩
            · rw [if_neg (fun z => eu ((nI_eq (by omega) (by omega)).mp z)), tail (nI (r + 1)) (nI u) rfl (by rw [if_neg eu]), f1]
              exact ⟨I', J', T', rfl, f2, f3, fun a b h h' => by rw [f4 a b h h']; exact hI3a a b h h', fun i hi => by rw [f5 i hi]; exact hI3b i hi, fun a b h h' => by rw [f6 a b h h']; exact e6 a b h h'⟩
          · rw [if_neg (fun z => hb (hiff.mp z)), if_neg hb, nI_1]
            obtain ⟨I', J', T', f1, f2, f3⟩ := ihk (j + 1) I J T st (by omega) (by omega) hM hc hz hT hP
            rw [hg'] at f2
            exact ⟨I', J', T', f1, f2, f3⟩
    unfold fx_X12_goCoaches fb_X12_goCoaches
    rw [hM.1.1.2.1, if_neg (fun z => by have := (nI_eq (by omega) (by omega)).mp z; omega)]
    obtain ⟨I', J', T', f1, f2, f3⟩ := loop n 0 I J T st (Nat.zero_le _) (by omega) hM hc hz hT hP
    exact ⟨I', J', T', f1, f2, f3⟩
end QS
