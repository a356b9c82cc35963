/-! ===== orders of stops: the reference ===== -/
section QW
variable {n : Nat} {D : q_Rd} {J : Nat → Nat → Int64} {T : Nat}
theorem q_pp_1 (D : q_Rd) (r : Nat) : ∀ i, q_pp D (2 ^ r) i = if r < i then q_path (q_fr D) (q_ho D r) else 0 := by
  intro i
  induction i with
  | zero => rw [if_neg (by omega)]; rfl
  | succ i ih =>
    unfold q_pp
    rw [Nat.testBit_two_pow, ih]
    by_cases e : r = i
    · subst e
      rw [decide_eq_true rfl, if_pos rfl, if_neg (by omega), if_pos (by omega), Nat.zero_or]
    · rw [decide_eq_false e, if_neg (by decide)]
      by_cases h : r < i
      · rw [if_pos h, if_pos (by omega)]
      · rw [if_neg h, if_neg (by omega)]
theorem q_mf_1 {r : Nat} (hr : r < q_R D) : q_mf D (2 ^ r) = q_ap D 0 (q_ho D r) := by
  unfold q_mf q_ap
  rw [q_pp_1, if_pos hr, q_path_0, Nat.zero_xor]
theorem m_ride_loop (hn : 300 ≤ n) (hD : q_ok D) {t : Nat → Nat} {K : Nat} (hK : K ≤ 6) (ht : ∀ j, j < K → t j < q_R D) (x : Int32) : ∀ (m i : Nat) (I : Nat → Nat → Int32), i ≤ K → K - i < m → (q_ft D t i).1 ≤ q_W D → q_RM I D → I 53 36 = nI K → (∀ j, j < K → I 67 j = nI (t j)) → ∃ I', f_X12_rideAll_13 n m I J T x (nI (q_ft D t i).1) (nI (q_ft D t i).2.1) (nI (q_ft D t i).2.2.1) (q_ft D t i).2.2.2 (nI i) = some (q_sel x (q_ft D t K), I') ∧ (∀ a c, a ≠ 68 → I' a c = I a c) ∧ (∀ c, (∀ j, i ≤ j → j < K → t j ≠ c) → I' 68 c = I 68 c) ∧ (∀ j, i ≤ j → j < K → (∀ l, j < l → l < K → t l ≠ t j) → I' 68 (t j) = nI (q_ft D t (j + 1)).2.1) := by
  have hR := hD.1.2.1
  intro m
  induction m with
  | zero => intro i I _ h; omega
  | succ m ih =>
    intro i I hi hm hat hx hk h67
    rw [f_X12_rideAll_13, hk]
    by_cases e : i = K
    · subst e
      rw [if_pos (Int32.le_refl _)]
      refine ⟨I, ?_, fun _ _ _ => rfl, fun _ _ => rfl, fun j a b => by omega⟩
      unfold q_sel
      by_cases h0 : x = 0
      · rw [if_pos h0, if_pos h0]
      · rw [if_neg h0, if_neg h0]
        by_cases h1 : x = 1
        · rw [if_pos h1, if_pos h1]
        · rw [if_neg h1, if_neg h1]
    · have hti := ht i (by omega)
      have hix : ok_ix (nI i) 6 := q_ix (by omega) (by omega)
      have hcl : (nI i).toNatClampNeg = i := q_cl (by omega)
      have hx3 : (3 : Int32) * nI (t i) = nI (3 * t i) := pk_mul 3 (t i)
      have hix2 : ok_ix (nI (3 * t i)) 18 := q_ix (by omega) (by omega)
      have hcl2 : (nI (3 * t i)).toNatClampNeg = 3 * t i := q_cl (by omega)
      have hix3 : ok_ix (nI (t i)) 6 := q_ix (by omega) (by omega)
      have hcl3 : (nI (t i)).toNatClampNeg = t i := q_cl (by omega)
      have ho := (hx.2.2 _ hti).1
      have hho := hD.2.2 _ hti
      have ea : f_X12_apart n I J T (nI (q_ft D t i).1) (nI (q_ho D (t i))) = some (nI (q_ap D (q_ft D t i).1 (q_ho D (t i)))) := m_apart hn hD hx hat hho.2.1
      obtain ⟨s1, s2⟩ := q_shl6 (t i) (by omega)
      have es : q_ft D t (i + 1) = q_fs D (q_ft D t i) (t i) := rfl
      obtain ⟨I1, hI1⟩ : ∃ z, z = am_u I 68 (t i) (nI ((q_ft D t i).2.1 + q_ap D (q_ft D t i).1 (q_ho D (t i)))) := ⟨_, rfl⟩
      have hI1f : ∀ a c, ¬ (a = 68 ∧ c = t i) → I1 a c = I a c := fun a c h => by
        rw [hI1]
        unfold am_u
        rw [if_neg h]
      have hx1 : q_RM I1 D := hx.of (hI1f 53 26 (by omega)) (hI1f 53 27 (by omega)) (fun a c h => hI1f a c (by omega))
      have em : f_X12_milesOf n I1 J T (nI (2 ^ t i)) = some (nI (q_ap D 0 (q_ho D (t i)))) := by
        rw [m_milesOf hn hD hx1 (by omega), q_mf_1 hti]
      obtain ⟨I', f1, f2, f3, f4⟩ := ih (i + 1) I1 (by omega) (by omega) (by rw [es]; exact hho.2.1) hx1 (by rw [hI1f 53 36 (by omega)]; exact hk) (fun j hj => by rw [hI1f 67 j (by omega)]; exact h67 j hj)
      rw [if_neg (nI_ge (by omega) (by omega)), if_pos hix, hcl, h67 i (by omega), hx3]
      simp only [if_pos hix2, hcl2, ho, ea, Option.bind_some, if_pos hix3, hcl3]
      rw [nI_add, ← hI1, s1, em, Option.bind_some, nI_1, nI_add]
      rw [es] at f1
      refine ⟨I', f1, fun a c h => by rw [f2 a c h]; exact hI1f a c (by omega), fun c hc => ?_, fun j j1 j2 hl => ?_⟩
      · rw [f3 c (fun j a b => hc j (by omega) b)]
        exact hI1f 68 c (fun z => hc i (Nat.le_refl _) (by omega) z.2.symm)
      · by_cases ej : j = i
        · subst ej
          rw [f3 (t j) (fun l a b => hl l (by omega) b), hI1, es]
          simp [am_u, q_fs]
        · exact f4 j (by omega) j2 hl
theorem m_ride (hn : 300 ≤ n) (hD : q_ok D) {t : Nat → Nat} {K : Nat} (hK : K ≤ 6) (ht : ∀ j, j < K → t j < q_R D) (x : Int32) {I : Nat → Nat → Int32} (hx : q_RM I D) (hk : I 53 36 = nI K) (h67 : ∀ j, j < K → I 67 j = nI (t j)) : ∃ I', f_X12_rideAll n I J T x = some (q_sel x (q_ft D t K), I') ∧ (∀ a c, a ≠ 68 → I' a c = I a c) ∧ (∀ j, j < K → (∀ l, j < l → l < K → t l ≠ t j) → I' 68 (t j) = nI (q_ft D t (j + 1)).2.1) := by
  obtain ⟨I', f1, f2, f3, f4⟩ := m_ride_loop (n := n) (J := J) (T := T) hn hD hK ht x n 0 I (Nat.zero_le _) (by omega) (Nat.zero_le _) hx hk h67
  exact ⟨I', f1, f2, fun j hj hl => f4 j (Nat.zero_le _) hj hl⟩
theorem m_go (hn : 300 ≤ n) (hD : q_ok D) {wish : Int32} : ∀ (f m wt : Nat) (t : Nat → Nat) (K dg : Nat) (I : Nat → Nat → Int32) (st : q_Best), q_bc wt = f → K + f ≤ 6 → f < m → wt < 2 ^ q_R D → dg < 10 ^ K → (∀ j, j < K → t j < q_R D) → I 53 36 = nI K → (∀ j, j < K → I 67 j = nI (t j)) → q_RM I D → q_stc st (I 53 37) (I 53 38) → ∃ I', fx_X12_goOrders n m I J T (nI wt) (nI dg) wish = some I' ∧ q_stc (q_vs D wish f wt t K dg st) (I' 53 37) (I' 53 38) ∧ I' 53 36 = nI K ∧ (∀ j, j < K → I' 67 j = I 67 j) ∧ ∀ a c, a ≠ 67 → a ≠ 68 → ¬ (a = 53 ∧ (c = 36 ∨ c = 37 ∨ c = 38)) → I' a c = I a c := by
  have hR := hD.1.2.1
  have hp := (q_pow2 (q_R D) hR).2
  intro f
  induction f with
  | zero =>
    intro m wt t K dg I st hf hK hm hwt hdg ht hk h67 hx hst
    obtain ⟨m, rfl⟩ : ∃ z, m = z + 1 := ⟨m - 1, by omega⟩
    have hwt0 : wt = 0 := (q_bc_0 (by omega)).mp hf
    subst hwt0
    obtain ⟨I1, e1, e2, -⟩ := m_ride (n := n) (J := J) (T := T) hn hD (by omega) ht wish hx hk h67
    have hd := q_dgne hdg (by omega)
    have hset : ∀ a c, ¬ (a = 53 ∧ (c = 37 ∨ c = 38)) → am_u (am_u I1 53 37 (nI dg)) 53 38 (q_sel wish (q_ft D t K)) a c = I1 a c := fun a c h => by
      unfold am_u
      rw [if_neg (by omega), if_neg (by omega)]
    have h2 : am_u (am_u I1 53 37 (nI dg)) 53 38 (q_sel wish (q_ft D t K)) 53 37 = nI dg := by simp [am_u]
    have h3 : am_u (am_u I1 53 37 (nI dg)) 53 38 (q_sel wish (q_ft D t K)) 53 38 = q_sel wish (q_ft D t K) := by simp [am_u]
    unfold fx_X12_goOrders fb_X12_goOrders f_X12_goOrders_29
    rw [if_pos nI_0, e1, Option.bind_some]
    simp only [e2 53 37 (by omega), e2 53 38 (by omega)]
    unfold q_vs
    cases st with
    | none =>
      have h' : I 53 37 = -1 := hst
      rw [if_pos h']
      exact ⟨_, rfl, ⟨h2, h3, hd⟩, by rw [hset 53 36 (by omega), e2 53 36 (by omega)]; exact hk, fun j hj => by rw [hset 67 j (by omega), e2 67 j (by omega)], fun a c x1 x2 x3 => by rw [hset a c (by omega), e2 a c (by omega)]⟩
    | some b =>
      obtain ⟨a1, a2, a3⟩ := hst
      rw [if_neg (by rw [a1]; exact a3), a2]
      unfold q_take
      by_cases hlt : q_sel wish (q_ft D t K) < b.2
      · simp only [if_pos hlt]
        exact ⟨_, rfl, ⟨h2, h3, hd⟩, by rw [hset 53 36 (by omega), e2 53 36 (by omega)]; exact hk, fun j hj => by rw [hset 67 j (by omega), e2 67 j (by omega)], fun a c x1 x2 x3 => by rw [hset a c (by omega), e2 a c (by omega)]⟩
      · simp only [if_neg hlt]
        exact ⟨_, rfl, ⟨by rw [e2 53 37 (by omega)]; exact a1, by rw [e2 53 38 (by omega)]; exact a2, a3⟩, by rw [e2 53 36 (by omega)]; exact hk, fun j hj => e2 67 j (by omega), fun a c x1 x2 x3 => e2 a c (by omega)⟩
  | succ f ih =>
    intro m wt t K dg I st hf hK hm hwt hdg ht hk h67 hx hst
    obtain ⟨m, rfl⟩ : ∃ z, m = z + 1 := ⟨m - 1, by omega⟩
    have hwt0 : ¬ wt = 0 := fun z => by have := (q_bc_0 (W := wt) (by omega)).mpr z; omega
    have loop : ∀ (k r : Nat) (I : Nat → Nat → Int32) (st : q_Best), r ≤ q_R D → q_R D - r < k → I 53 36 = nI K → (∀ j, j < K → I 67 j = nI (t j)) → q_RM I D → q_stc st (I 53 37) (I 53 38) → ∃ I', f_X12_goOrders_44 n (fx_X12_goOrders n m) k I J T (nI wt) (nI dg) wish (nI r) = some I' ∧ q_stc (q_vl (fun r => wt.testBit r) (fun r st => q_vs D wish f (wt &&& (63 ^^^ 2 ^ r)) (q_tu t K r) (K + 1) (dg * 10 + r) st) (q_R D - r) r st) (I' 53 37) (I' 53 38) ∧ I' 53 36 = nI K ∧ (∀ j, j < K → I' 67 j = I 67 j) ∧ ∀ a c, a ≠ 67 → a ≠ 68 → ¬ (a = 53 ∧ (c = 36 ∨ c = 37 ∨ c = 38)) → I' a c = I a c := by
      intro k
      induction k with
      | zero => intro r I st _ h; omega
      | succ k ihk =>
        intro r I st hr hk0 hk h67 hx hst
        rw [f_X12_goOrders_44, hx.1.2.1]
        by_cases e : r = q_R D
        · subst e
          rw [if_pos (Int32.le_refl _), Nat.sub_self]
          exact ⟨I, rfl, hst, hk, fun _ _ => rfl, fun _ _ _ _ _ => rfl⟩
        · obtain ⟨g, hg⟩ : ∃ g, q_R D - r = g + 1 := ⟨q_R D - r - 1, by omega⟩
          have hg' : q_R D - (r + 1) = g := by omega
          rw [if_neg (nI_ge (by omega) (by omega)), m_has (by omega) (by omega), Option.bind_some, hg]
          unfold f_X12_goOrders_116 q_vl
          rw [nI_1]
          by_cases hb : wt.testBit r = true
          · have hix : ok_ix (nI K) 6 := q_ix (by omega) (by omega)
            have hcl : (nI K).toNatClampNeg = K := q_cl (by omega)
            have ed : 10 * nI dg + nI r = nI (dg * 10 + r) := by
              rw [show (10 : Int32) * nI dg = nI (10 * dg) from pk_mul 10 dg, nI_add, Nat.mul_comm]
            have hdg2 : dg * 10 + r < 10 ^ (K + 1) := by rw [Nat.pow_succ]; omega
            have hwt2 : wt &&& (63 ^^^ 2 ^ r) < 2 ^ q_R D := Nat.lt_of_le_of_lt Nat.and_le_left hwt
            obtain ⟨I1, hI1⟩ : ∃ z, z = am_u (am_u I 67 K (nI r)) 53 36 (nI (K + 1)) := ⟨_, rfl⟩
            have hI1f : ∀ a c, ¬ (a = 67 ∧ c = K) → ¬ (a = 53 ∧ c = 36) → I1 a c = I a c := fun a c h h' => by
              rw [hI1]
              unfold am_u
              rw [if_neg h', if_neg h]
            have hx1 : q_RM I1 D := hx.of (hI1f 53 26 (by omega) (by omega)) (hI1f 53 27 (by omega) (by omega)) (fun a c h => hI1f a c (by omega) (by omega))
            have h36 : I1 53 36 = nI (K + 1) := by rw [hI1]; simp [am_u]
            have h67' : ∀ j, j < K + 1 → I1 67 j = nI (q_tu t K r j) := fun j hj => by
              unfold q_tu
              by_cases ej : j = K
              · rw [if_pos ej, hI1, ej]
                simp [am_u]
              · rw [if_neg ej, hI1f 67 j (by omega) (by omega)]
                exact h67 j (by omega)
            have ht' : ∀ j, j < K + 1 → q_tu t K r j < q_R D := fun j hj => by
              unfold q_tu
              by_cases ej : j = K
              · rw [if_pos ej]; omega
              · rw [if_neg ej]; exact ht j (by omega)
            obtain ⟨I2, e1, e2, e3, e4, e5⟩ := ih m (wt &&& (63 ^^^ 2 ^ r)) (q_tu t K r) (K + 1) (dg * 10 + r) I1 st (q_bcm (by omega) (by omega) hb hf) (by omega) (by omega) hwt2 hdg2 ht' h36 h67' hx1 (by rw [hI1f 53 37 (by omega) (by omega), hI1f 53 38 (by omega) (by omega)]; exact hst)
            obtain ⟨I3, hI3⟩ : ∃ z, z = am_u I2 53 36 (nI K) := ⟨_, rfl⟩
            have hI3f : ∀ a c, ¬ (a = 53 ∧ c = 36) → I3 a c = I2 a c := fun a c h => by
              rw [hI3]
              unfold am_u
              rw [if_neg h]
            have hx3 : q_RM I3 D := hx1.of (by rw [hI3f 53 26 (by omega)]; exact e5 53 26 (by omega) (by omega) (by omega)) (by rw [hI3f 53 27 (by omega)]; exact e5 53 27 (by omega) (by omega) (by omega)) (fun a c h => by rw [hI3f a c (by omega)]; exact e5 a c (by omega) (by omega) (by omega))
            have h673 : ∀ j, j < K → I3 67 j = I 67 j := fun j hj => by
              rw [hI3f 67 j (by omega), e4 j (by omega), hI1f 67 j (by omega) (by omega)]
            rw [if_pos hb, if_neg (by exact q_10), hk, if_pos hix, if_pos hb]
            simp only [hcl]
            rw [nI_1, ← hI1, q_anr (by omega) (by omega), ed, e1, Option.bind_some, e3, show nI (K + 1) - 1 = nI K from by rw [show (1 : Int32) = nI 1 from rfl, pk_sub (by omega), Nat.add_sub_cancel], ← hI3]
            obtain ⟨I', f1, f2, f3, f4, f5⟩ := ihk (r + 1) I3 _ (by omega) (by omega) (by rw [hI3]; simp [am_u]) (fun j hj => by rw [h673 j hj]; exact h67 j hj) hx3 (by rw [hI3f 53 37 (by omega), hI3f 53 38 (by omega)]; exact e2)
            rw [hg'] at f2
            exact ⟨I', f1, f2, f3, fun j hj => by rw [f4 j hj]; exact h673 j hj, fun a c x1 x2 x3 => by rw [f5 a c x1 x2 x3, hI3f a c (by omega), e5 a c x1 x2 x3]; exact hI1f a c (by omega) (by omega)⟩
          · rw [if_neg hb, if_pos rfl, if_neg hb]
            obtain ⟨I', f1, f2, f3⟩ := ihk (r + 1) I st (by omega) (by omega) hk h67 hx hst
            rw [hg'] at f2
            exact ⟨I', f1, f2, f3⟩
    unfold fx_X12_goOrders fb_X12_goOrders
    rw [if_neg (nI_ne0 (by omega) (by omega))]
    exact loop n 0 I st (Nat.zero_le _) (by omega) hk h67 hx hst
end QW
