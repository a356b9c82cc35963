/-! ===== a road's text read, the reference ===== -/
def q_co (D : q_Rd) (told : Bool) : Prop := told = false → q_cs D = 4 ∧ q_pr D = 1 ∧ q_ni D = 99
theorem q_clz_co {t : q_Tx} {a : Nat} {D : q_Rd} {told : Bool} (h : q_co D told) : ∀ s, q_clz t a D told = .inr s → q_co s.2.1 s.2.2 := by
  intro s hs
  unfold q_clz at hs
  by_cases c1 : q_pk t (q_sk t a) = 119 ∧ q_W D < 9
  · rw [if_pos c1] at hs
    cases hq : q_its t 0 (q_W D) 3 0 (q_wot 0) (q_sk t a + 1) with
    | inl f => rw [hq] at hs; cases hs
    | inr r => rw [hq] at hs; cases hs; exact h
  · rw [if_neg c1] at hs
    by_cases c2 : q_pk t (q_sk t a) = 114 ∧ q_R D < 6
    · rw [if_pos c2] at hs
      cases hq : q_its t 1 (q_W D) 3 0 (q_wot 1) (q_sk t a + 1) with
      | inl f => rw [hq] at hs; cases hs
      | inr r => rw [hq] at hs; cases hs; exact h
    · rw [if_neg c2] at hs
      by_cases c3 : q_pk t (q_sk t a) = 99 ∧ told = false
      · rw [if_pos c3] at hs
        cases hq : q_its t 2 (q_W D) 3 0 (q_wot 2) (q_sk t a + 1) with
        | inl f => rw [hq] at hs; cases hs
        | inr r => rw [hq] at hs; cases hs; exact fun z => by cases z
      · rw [if_neg c3] at hs
        cases hs
def q_rc (t : q_Tx) (m a : Nat) (D : q_Rd) (told : Bool) : Nat ⊕ q_Rd := match q_clz t a D told with
  | .inl f => .inl f
  | .inr s => q_rl t m s.1 s.2.1 s.2.2
section QW
variable {n : Nat} {J : Nat → Nat → Int64} {T : Nat} {t : q_Tx}
theorem m_wh_loop {I : Nat → Nat → Int32} {D : q_Rd} {told : Bool} (hD : q_pok D) (hT : q_MTd I D told) : ∀ (m r : Nat), r ≤ q_R D → q_R D - r < m → (∀ l, l < r → q_ho D l ≤ q_W D) → f_X12_isWhole_2 n m I J T (nI r) = some (if q_wh D = true then 1 else 0) := by
  have hW := hD.1.1
  have hR := hD.1.2.1
  intro m
  induction m with
  | zero => intro r _ h; omega
  | succ m ih =>
    intro r hr hm hl
    rw [f_X12_isWhole_2, hT.1.1.1, hT.1.1.2]
    by_cases e : r = q_R D
    · subst e
      rw [if_pos (Int32.le_refl _)]
      by_cases c1 : q_W D = 0
      · have hno : ¬ q_wh D = true := fun z => by have := ((q_wh_iff D).mp z).1; omega
        rw [if_pos (show nI (q_W D) ≤ 0 by rw [c1]; decide +kernel), if_neg hno]
      · rw [if_neg (nI_nle (by omega) (by omega))]
        by_cases c2 : q_R D = 0
        · have hno : ¬ q_wh D = true := fun z => by have := ((q_wh_iff D).mp z).2.1; omega
          rw [if_pos (show nI (q_R D) ≤ 0 by rw [c2]; decide +kernel), if_neg hno]
        · rw [if_neg (nI_nle (by omega) (by omega)), if_pos ((q_wh_iff D).mpr ⟨by omega, by omega, hl⟩)]
    · have hx3 : (3 : Int32) * nI r = nI (3 * r) := pk_mul 3 r
      have hix : ok_ix (nI (3 * r)) 18 := q_ix (by omega) (by omega)
      have hcl : (nI (3 * r)).toNatClampNeg = 3 * r := q_cl (by omega)
      have hho := (hD.2.2 r (by omega)).2.1
      rw [if_neg (nI_ge (by omega) (by omega)), hx3, if_pos hix, hcl, (hT.2.2.1 r (by omega)).1]
      by_cases c : q_ho D r ≤ q_W D
      · rw [if_pos (nI_le c (by omega)), nI_1]
        exact ih (r + 1) (by omega) (by omega) (fun l hl2 => by
          by_cases el : l = r
          · rw [el]; exact c
          · exact hl l (by omega))
      · have hno : ¬ q_wh D = true := fun z => c (((q_wh_iff D).mp z).2.2 r (by omega))
        rw [if_neg (nI_ge (by omega) (by omega)), if_neg hno]
theorem m_rl (hn : 300 ≤ n) (ht : q_tok t) : ∀ (k m a : Nat) (D : q_Rd) (told : Bool) (I : Nat → Nat → Int32), a ≤ t.1 → t.1 - a + 3 ≤ k → t.1 - a < m → q_MC I T t a (-1) → q_pok D → q_MTd I D told → q_co D told → ∃ I', f_X12_readRoad_52 n k I J T 1 = some (I', T) ∧ q_mf2 I I' ∧ match q_rc t m a D told with
    | .inl f => I' 53 11 = nI f
    | .inr D' => I' 53 11 = -1 ∧ ∃ told', q_MTd I' D' told' := by
  have h160 := ht.1
  intro k
  induction k with
  | zero => intro m a D told I _ h; omega
  | succ k ih =>
    intro m a D told I ha hk hm h hD hT hco
    obtain ⟨k1, rfl⟩ : ∃ z, k = z + 1 := ⟨k - 1, by omega⟩
    obtain ⟨I1, e1, e2, e3⟩ := m_clause (n := n) (J := J) (T := T) hn ht ha h hD hT hco
    obtain ⟨c1, c2⟩ := q_clz_ok (t := t) (a := a) (D := D) (told := told) ha hD
    have hstop : ∀ (I2 : Nat → Nat → Int32), I2 53 11 ≠ -1 → f_X12_readRoad_89 n (f_X12_readRoad_52 n (k1 + 1)) I2 J T = some (I2, T) := fun I2 h2 => by
      unfold f_X12_readRoad_89 f_X12_readRoad_90
      rw [if_pos rfl, f_X12_readRoad_52, if_pos rfl]
      unfold f_X12_readRoad_108
      rw [if_neg h2]
    rw [f_X12_readRoad_52, if_neg q_10, h.2.2, if_pos rfl, e1, Option.bind_some]
    unfold q_rc
    cases hq : q_clz t a D told with
    | inl f =>
      rw [hq] at e3
      have e3' : I1 53 11 = nI f := e3
      have hf := c1 f hq
      have hne : I1 53 11 ≠ -1 := by rw [e3']; exact q_nIm1 (by omega)
      rw [if_neg hne, hstop I1 hne]
      exact ⟨I1, rfl, e2, e3'⟩
    | inr s =>
      rw [hq] at e3
      obtain ⟨s1, s2, s3⟩ := c2 s hq
      have hco' := q_clz_co hco s hq
      have hss := q_sk_le s2
      obtain ⟨m, rfl⟩ : ∃ z, m = z + 1 := ⟨m - 1, by omega⟩
      rcases e3 with ⟨b, b1, b2, b3, b4⟩ | ⟨b1, b2, b3⟩
      · obtain ⟨I2, g1, g2, g3⟩ := m_look (n := n) (J := J) hn ht b1 b3
        have hp := q_pk_lt ht (q_sk t b)
        have hT2 : q_MTd I2 s.2.1 s.2.2 := b4.of (g3 53 28 (by omega)) (g3 53 29 (by omega)) (g3 53 30 (by omega)) (fun x y _ _ => g3 x y (by omega))
        have hmf : q_mf2 I I2 := fun x y z1 z2 => by rw [g3 x y (by omega)]; exact e2 x y z1 z2
        rw [b3.2.2, if_pos rfl, g1, Option.bind_some]
        simp only []
        rw [b2] at g2 hp ⊢
        show ∃ I', _ ∧ _ ∧ match q_rl t (m + 1) s.1 s.2.1 s.2.2 with
          | .inl f => I' 53 11 = nI f
          | .inr D' => I' 53 11 = -1 ∧ ∃ told', q_MTd I' D' told'
        unfold q_rl
        by_cases c59 : q_pk t (q_sk t s.1) = 59
        · have hlt := q_pk_in (t := t) (a := q_sk t s.1) (by rw [c59]; decide)
          rw [if_pos (show q_sg (q_pk t (q_sk t s.1)) = 59 from (q_sg_eq (x := 59) hp.1 (by omega) (by omega)).mpr c59), if_pos c59]
          unfold f_X12_readRoad_90
          rw [if_neg q_10, g2.2.1, nI_1]
          have hMn := g2.at (q_sk t s.1 + 1)
          obtain ⟨I', f1, f2, f3⟩ := ih m (q_sk t s.1 + 1) s.2.1 s.2.2 (am_u I2 53 10 (nI (q_sk t s.1 + 1))) hlt (by omega) (by omega) hMn s3 (hT2.of (q_mk.a I2 _ 53 28 (by omega)) (q_mk.a I2 _ 53 29 (by omega)) (q_mk.a I2 _ 53 30 (by omega)) (fun x y _ _ => q_mk.a I2 _ x y (by omega))) hco'
          exact ⟨I', f1, fun x y z1 z2 => by rw [f2 x y z1 z2, q_mk.a I2 _ x y (by omega)]; exact hmf x y z1 z2, f3⟩
        · rw [if_neg (show ¬ q_sg (q_pk t (q_sk t s.1)) = 59 from fun z => c59 ((q_sg_eq (x := 59) hp.1 (by omega) (by omega)).mp z)), if_neg c59]
          unfold f_X12_readRoad_89 f_X12_readRoad_90
          rw [if_pos rfl, f_X12_readRoad_52, if_pos rfl]
          obtain ⟨I3, k31, k32, k33⟩ := m_look (n := n) (J := J) hn ht hss.2 g2
          rw [q_sk_sk s2] at k31 k32
          have hT3 : q_MTd I3 s.2.1 s.2.2 := hT2.of (k33 53 28 (by omega)) (k33 53 29 (by omega)) (k33 53 30 (by omega)) (fun x y _ _ => k33 x y (by omega))
          have hmf3 : q_mf2 I I3 := fun x y z1 z2 => by rw [k33 x y (by omega)]; exact hmf x y z1 z2
          have hf3 := m_fails (n := n) (J := J) k32
          have hmf4 : q_mf2 I (am_u I3 53 11 (nI (q_sk t s.1))) := fun x y z1 z2 => by rw [q_mk.w I3 _ x y (by omega)]; exact hmf3 x y z1 z2
          unfold f_X12_readRoad_108 f_X12_readRoad_131
          rw [g2.2.2, if_pos rfl, k31, Option.bind_some]
          simp only []
          by_cases c0 : q_pk t (q_sk t s.1) = 0
          · have hw := m_wh_loop (n := n) (J := J) (T := T) s3 hT3 n 0 (Nat.zero_le _) (by have := s3.1.2.1; omega) (fun l hl => by omega)
            have hw' : f_X12_isWhole n I3 J T = some (if q_wh s.2.1 = true then 1 else 0) := hw
            rw [if_pos ((q_sg_m1 hp.1).mpr c0), hw', Option.bind_some, if_pos c0]
            by_cases cw : q_wh s.2.1 = true
            · rw [if_pos cw, if_neg q_10, if_pos cw]
              exact ⟨I3, rfl, hmf3, k32.2.2, s.2.2, hT3⟩
            · have hN : q_sk t s.1 = t.1 := by
                have := (hp.2).mp c0
                omega
              rw [if_neg cw, if_pos rfl, hf3, Option.bind_some, if_neg cw]
              refine ⟨_, rfl, hmf4, ?_⟩
              show am_u I3 53 11 (nI (q_sk t s.1)) 53 11 = nI t.1
              rw [← hN]
              simp [am_u]
          · rw [if_neg (fun z => c0 ((q_sg_m1 hp.1).mp z)), if_neg c0, hf3, Option.bind_some]
            exact ⟨_, rfl, hmf4, (k32.wr _).2.2⟩
      · have hne : I1 53 11 ≠ -1 := by rw [b1]; exact q_nIm1 (by omega)
        rw [if_neg hne, hstop I1 hne]
        show ∃ I', _ ∧ _ ∧ match q_rl t (m + 1) s.1 s.2.1 s.2.2 with
          | .inl f => I' 53 11 = nI f
          | .inr D' => I' 53 11 = -1 ∧ ∃ told', q_MTd I' D' told'
        unfold q_rl
        rw [if_neg b2, if_neg b3]
        exact ⟨I1, rfl, e2, b1⟩
theorem m_readRoad (hn : 300 ≤ n) (ht : q_tok t) {I : Nat → Nat → Int32} (hM : q_TM I t) : ∃ I', f_X12_readRoad n I J T = some (I', 54) ∧ (∀ x y, ¬ (x = 53 ∧ ((8 ≤ y ∧ y ≤ 11) ∨ y = 28 ∨ y = 29 ∨ y = 30)) → ¬ (62 ≤ x ∧ x ≤ 65) → I' x y = I x y) ∧ match q_rd t with
    | .inl f => I' 53 11 = nI f
    | .inr D' => I' 53 11 = -1 ∧ ∃ told', q_MTd I' D' told' := by
  have h160 := ht.1
  obtain ⟨I0, hI0⟩ : ∃ z, z = am_u (am_u (am_u (am_u (am_u (am_u (am_u (am_u (am_u (am_u I 53 8 0) 53 9 (I 53 6)) 53 10 0) 53 11 (-1)) 53 28 0) 53 29 0) 53 30 0) 65 0 4) 65 1 1) 65 2 99 := ⟨_, rfl⟩
  have hI0f : ∀ x y, ¬ (x = 53 ∧ ((8 ≤ y ∧ y ≤ 11) ∨ y = 28 ∨ y = 29 ∨ y = 30)) → ¬ (62 ≤ x ∧ x ≤ 65) → I0 x y = I x y := fun x y z1 z2 => by
    rw [hI0]
    unfold am_u
    rw [if_neg (by omega), if_neg (by omega), if_neg (by omega), if_neg (by omega), if_neg (by omega), if_neg (by omega), if_neg (by omega), if_neg (by omega), if_neg (by omega), if_neg (by omega)]
  have hC : q_MC I0 54 t 0 (-1) := by
    refine ⟨⟨0, ?_, ?_, Or.inl ⟨rfl, by omega, fun i hi => ?_⟩⟩, ?_, ?_⟩
    · rw [hI0]; simp [am_u]; rfl
    · rw [hI0, ← hM.1]; simp [am_u]
    · rw [Nat.zero_add, hI0f 54 i (by omega) (by omega)]
      exact hM.2 i hi
    · rw [hI0]; simp [am_u]; rfl
    · rw [hI0]; simp [am_u]
  have hT0 : q_MTd I0 q_D0 false := by
    refine ⟨⟨⟨?_, ?_⟩, ?_, ?_, ?_⟩, fun p p1 p2 => by have p2' : p ≤ 0 := p2; omega, fun r hr => by have hr' : r < 0 := hr; omega, ?_⟩
    · show I0 53 28 = nI 0
      rw [hI0]; simp [am_u]; rfl
    · show I0 53 29 = nI 0
      rw [hI0]; simp [am_u]; rfl
    · show I0 65 0 = nI 4
      rw [hI0]; simp [am_u]; rfl
    · show I0 65 1 = nI 1
      rw [hI0]; simp [am_u]; rfl
    · show I0 65 2 = nI 99
      rw [hI0]; simp [am_u]; rfl
    · rw [hI0]; simp [am_u]
  obtain ⟨I', f1, f2, f3⟩ := m_rl (n := n) (J := J) (T := 54) hn ht n 200 0 q_D0 false I0 (Nat.zero_le _) (by omega) (by omega) hC q_pok_0 hT0 (fun _ => ⟨rfl, rfl, rfl⟩)
  unfold f_X12_readRoad f_X12_opens_v2
  rw [Option.bind_some]
  simp only []
  rw [← hI0, f1]
  exact ⟨I', rfl, fun x y z1 z2 => by rw [f2 x y (by omega) z2]; exact hI0f x y z1 z2, f3⟩
end QW
