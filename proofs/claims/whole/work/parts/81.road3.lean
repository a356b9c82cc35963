/-! ===== a road's text: the class's clause, and its reading ===== -/
def q_XT (I : Nat → Nat → Int32) (D : q_Rd) (told : Bool) : Prop := q_RX (fun a k => I (a + 6) k) D ∧ I 15 3 = (if told = true then 1 else 0)
/-- what is left of a road whose text was at fault -/
def q_XF (I : Nat → Nat → Int32) (t : q_Tx) (f : Nat) : Prop := I 1 1 = nI t.1 ∧ I 1 3 = nI f ∧ (∃ W, W ≤ 9 ∧ I 9 0 = nI W) ∧ ∃ R, R ≤ 6 ∧ I 9 1 = nI R
section QW
variable {n : Nat} {J : Nat → Nat → Int64} {T : Nat} {t : q_Tx}
theorem q_XT.of {I I' : Nat → Nat → Int32} {D : q_Rd} {told : Bool} (h : q_XT I D told) (e : ∀ x y, 9 ≤ x → x ≤ 15 → I' x y = I x y) : q_XT I' D told := ⟨h.1.of3 (fun a k h1 h2 => e (a + 6) k (by omega) (by omega)), by rw [e 15 3 (by omega) (by omega)]; exact h.2⟩
theorem x_cl_fail {a : Nat} {I : Nat → Nat → Int32} {D : q_Rd} {told : Bool} (h : q_XC I t a (-1)) (hD : q_pok D) (hT : q_XT I D told) : ∃ I', f_X3_clause_137 n I J T = some I' ∧ (∀ x y, x ≠ 1 → ¬ (9 ≤ x ∧ x ≤ 16) → I' x y = I x y) ∧ q_XF I' t a := by
  unfold f_X3_clause_137
  rw [h.2.2.1, x_fail h, Option.bind_some]
  refine ⟨_, rfl, fun x y h1 _ => q_fu1 x y h1, (h.wr _).1, (h.wr _).2.2.2, ⟨q_W D, hD.1.1, ?_⟩, ⟨q_R D, hD.1.2.1, ?_⟩⟩
  · rw [q_fu1 9 0 (by omega)]
    exact hT.1.1.1
  · rw [q_fu1 9 1 (by omega)]
    exact hT.1.1.2.1
theorem x_clause (hn : 300 ≤ n) (ht : q_tok t) {a : Nat} {I : Nat → Nat → Int32} {D : q_Rd} {told : Bool} (ha : a ≤ t.1) (h : q_XC I t a (-1)) (hD : q_pok D) (hT : q_XT I D told) : ∃ I', f_X3_clause n I J T = some I' ∧ (∀ x y, x ≠ 1 → ¬ (9 ≤ x ∧ x ≤ 16) → I' x y = I x y) ∧ match q_clz t a D told with
    | .inl f => q_XF I' t f
    | .inr s => q_XC I' t s.1 (-1) ∧ q_XT I' s.2.1 s.2.2 := by
  obtain ⟨I1, e1, e2, e3⟩ := x_sign (n := n) (J := J) (T := T) hn ht ha h
  have hT1 : q_XT I1 D told := hT.of (fun x y h1 h2 => e3 x y (by omega))
  obtain ⟨⟨d1, d2, d3, d4, d5⟩, d6, d7⟩ := id hD
  have hp := q_pk_lt ht (q_sk t a)
  have h90 : I1 9 0 = nI (q_W D) := hT1.1.1.1
  have h91 : I1 9 1 = nI (q_R D) := hT1.1.1.2.1
  have h119 : (q_sg (q_pk t (q_sk t a)) = 119) ↔ q_pk t (q_sk t a) = 119 := q_sg_eq (x := 119) hp.1 (by omega) (by omega)
  have h114 : (q_sg (q_pk t (q_sk t a)) = 114) ↔ q_pk t (q_sk t a) = 114 := q_sg_eq (x := 114) hp.1 (by omega) (by omega)
  have h99 : (q_sg (q_pk t (q_sk t a)) = 99) ↔ q_pk t (q_sk t a) = 99 := q_sg_eq (x := 99) hp.1 (by omega) (by omega)
  obtain ⟨If, g1, g2, g3⟩ := x_cl_fail (n := n) (J := J) (T := T) e2 hD hT1
  have hfail : ∃ I', some If = some I' ∧ (∀ x y, x ≠ 1 → ¬ (9 ≤ x ∧ x ≤ 16) → I' x y = I x y) ∧ q_XF I' t (q_sk t a) := ⟨If, rfl, fun x y h1 h2 => by rw [g2 x y h1 h2]; exact e3 x y h1, g3⟩
  have hst : (9 ≤ nI (q_W D)) ↔ ¬ q_W D < 9 := ⟨fun z hc => nI_ge (b := 9) hc (by omega) z, fun z => nI_le (a := 9) (by omega) (by omega)⟩
  have hst6 : (6 ≤ nI (q_R D)) ↔ ¬ q_R D < 6 := ⟨fun z hc => nI_ge (b := 6) hc (by omega) z, fun z => nI_le (a := 6) (by omega) (by omega)⟩
  unfold f_X3_clause
  rw [e1, Option.bind_some]
  simp only [h90]
  unfold f_X3_clause_51 f_X3_clause_94 q_clz
  simp only [h91, hT1.2]
  by_cases p119 : q_pk t (q_sk t a) = 119
  · rw [if_pos (h119.mpr p119)]
    by_cases hw : q_W D < 9
    · have hlt := q_pk_in (t := t) (a := q_sk t a) (by rw [p119]; decide)
      obtain ⟨I2, b1, b2, b3⟩ := x_items (n := n) (J := J) (T := T) (kind := 0) (W := q_W D) hn ht (by omega) d1 (a := q_sk t a + 1) hlt (e2.at (q_sk t a + 1)) (by rw [q_fu1 9 0 (by omega)]; exact h90)
      have b1' : f_X3_readItems n (am_u I1 1 2 (nI (q_sk t a + 1))) J T 0 = some I2 := b1
      have hI2 : ∀ x y, x ≠ 1 → x ≠ 16 → I2 x y = I1 x y := fun x y h1 h2 => by rw [b2 x y h1 h2]; exact q_fu1 x y h1
      have h290 : I2 9 0 = nI (q_W D) := by rw [hI2 9 0 (by omega) (by omega)]; exact h90
      have hix : ok_ix (nI (q_W D + 1)) 10 := q_ix (by omega) (by omega)
      have hcl : (nI (q_W D + 1)).toNatClampNeg = q_W D + 1 := q_cl (by omega)
      have htk : f_X3_takeWay n I2 J T = some (am_u (am_u (am_u I2 9 0 (nI (q_W D + 1))) 10 (q_W D + 1) (I2 16 0)) 11 (q_W D + 1) (I2 16 1)) := by
        unfold f_X3_takeWay
        rw [h290, nI_1, if_pos hix, if_pos hix, hcl]
      rw [if_neg (fun z => (hst.mp z) hw), e2.2.2.1, nI_1, b1', Option.bind_some, htk, Option.bind_some, if_pos ⟨p119, hw⟩]
      obtain ⟨I3, hI3⟩ : ∃ z, z = am_u (am_u (am_u I2 9 0 (nI (q_W D + 1))) 10 (q_W D + 1) (I2 16 0)) 11 (q_W D + 1) (I2 16 1) := ⟨_, rfl⟩
      have hI3f : ∀ x y, x ≠ 10 → x ≠ 11 → ¬ (x = 9 ∧ y = 0) → I3 x y = I2 x y := fun x y h1 h2 h3 => by
        rw [hI3]
        unfold am_u
        rw [if_neg (by omega), if_neg (by omega), if_neg h3]
      have h30 : I3 9 0 = nI (q_W D + 1) := by rw [hI3]; simp [am_u]
      rw [← hI3]
      refine ⟨I3, rfl, fun x y h1 h2 => by rw [hI3f x y (by omega) (by omega) (by omega), hI2 x y h1 (by omega)]; exact e3 x y h1, ?_⟩
      cases hq : q_its t 0 (q_W D) 3 0 (q_wot 0) (q_sk t a + 1) with
      | inl f =>
        rw [hq] at b3
        exact ⟨by rw [hI3f 1 1 (by omega) (by omega) (by omega)]; exact b3.1, by rw [hI3f 1 3 (by omega) (by omega) (by omega)]; exact b3.2, ⟨q_W D + 1, by omega, h30⟩, ⟨q_R D, d2, by rw [hI3f 9 1 (by omega) (by omega) (by omega), hI2 9 1 (by omega) (by omega)]; exact h91⟩⟩
      | inr r =>
        rw [hq] at b3
        obtain ⟨c1, c2⟩ := b3
        have hko : ∀ x y, 9 ≤ x → x ≤ 15 → x ≠ 10 → x ≠ 11 → ¬ (x = 9 ∧ y = 0) → I3 x y = I1 x y := fun x y h1 h2 h3 h4 h5 => by rw [hI3f x y h3 h4 h5]; exact hI2 x y (by omega) (by omega)
        refine ⟨c1.of (fun x y hx => hI3f x y (by omega) (by omega) (by omega)), ⟨⟨h30, ?_, ?_, ?_, ?_⟩, fun p p1 p2 => ?_, fun i hi => ?_⟩, ?_⟩
        · show I3 9 1 = _
          rw [hko 9 1 (by omega) (by omega) (by omega) (by omega) (by omega)]; exact hT1.1.1.2.1
        · show I3 9 2 = _
          rw [hko 9 2 (by omega) (by omega) (by omega) (by omega) (by omega)]; exact hT1.1.1.2.2.1
        · show I3 9 3 = _
          rw [hko 9 3 (by omega) (by omega) (by omega) (by omega) (by omega)]; exact hT1.1.1.2.2.2.1
        · show I3 9 4 = _
          rw [hko 9 4 (by omega) (by omega) (by omega) (by omega) (by omega)]; exact hT1.1.1.2.2.2.2
        · have p2' : p ≤ q_W D + 1 := p2
          show I3 10 p = nI (q_tu (q_fr D) (q_W D + 1) (r.2 0) p) ∧ I3 11 p = nI (q_tu (q_mi D) (q_W D + 1) (r.2 1) p)
          unfold q_tu
          by_cases ep : p = q_W D + 1
          · rw [if_pos ep, if_pos ep, ← c2 0 (by omega), ← c2 1 (by omega), ep, hI3]
            simp [am_u]
          · obtain ⟨w1, w2⟩ := hT1.1.2.1 p p1 (by omega)
            rw [if_neg ep, if_neg ep, ← w1, ← w2, hI3]
            refine ⟨?_, ?_⟩
            · show _ = I1 10 p
              rw [← hI2 10 p (by omega) (by omega)]
              unfold am_u
              rw [if_neg (by omega), if_neg (by omega), if_neg (by omega)]
            · show _ = I1 11 p
              rw [← hI2 11 p (by omega) (by omega)]
              unfold am_u
              rw [if_neg (by omega), if_neg (by omega), if_neg (by omega)]
        · obtain ⟨w1, w2, w3⟩ := hT1.1.2.2 i hi
          refine ⟨?_, ?_, ?_⟩
          · show I3 12 i = _
            rw [hko 12 i (by omega) (by omega) (by omega) (by omega) (by omega)]; exact w1
          · show I3 13 i = _
            rw [hko 13 i (by omega) (by omega) (by omega) (by omega) (by omega)]; exact w2
          · show I3 14 i = _
            rw [hko 14 i (by omega) (by omega) (by omega) (by omega) (by omega)]; exact w3
        · rw [hko 15 3 (by omega) (by omega) (by omega) (by omega) (by omega)]
          exact hT1.2
    · rw [if_pos (hst.mpr hw), if_neg (fun z => by have := h114.mp z; omega), if_neg (fun z => by have := h99.mp z; omega), g1, if_neg (fun z => hw z.2), if_neg (fun z => by have := z.1; omega), if_neg (fun z => by have := z.1; omega)]
      exact hfail
  · rw [if_neg (fun z => p119 (h119.mp z)), if_neg (show ¬ (q_pk t (q_sk t a) = 119 ∧ q_W D < 9) from fun z => p119 z.1)]
    by_cases p114 : q_pk t (q_sk t a) = 114
    · rw [if_pos (h114.mpr p114)]
      by_cases hw : q_R D < 6
      · have hlt := q_pk_in (t := t) (a := q_sk t a) (by rw [p114]; decide)
        obtain ⟨I2, b1, b2, b3⟩ := x_items (n := n) (J := J) (T := T) (kind := 1) (W := q_W D) hn ht (by omega) d1 (a := q_sk t a + 1) hlt (e2.at (q_sk t a + 1)) (by rw [q_fu1 9 0 (by omega)]; exact h90)
        have b1' : f_X3_readItems n (am_u I1 1 2 (nI (q_sk t a + 1))) J T 1 = some I2 := b1
        have hI2 : ∀ x y, x ≠ 1 → x ≠ 16 → I2 x y = I1 x y := fun x y h1 h2 => by rw [b2 x y h1 h2]; exact q_fu1 x y h1
        have h291 : I2 9 1 = nI (q_R D) := by rw [hI2 9 1 (by omega) (by omega)]; exact h91
        have hix : ok_ix (nI (q_R D)) 6 := q_ix (by omega) (by omega)
        have hcl : (nI (q_R D)).toNatClampNeg = q_R D := q_cl (by omega)
        have htk : f_X3_takeRider n I2 J T = some (am_u (am_u (am_u (am_u I2 12 (q_R D) (I2 16 0)) 13 (q_R D) (I2 16 1)) 14 (q_R D) (I2 16 2)) 9 1 (nI (q_R D + 1))) := by
          unfold f_X3_takeRider
          simp only [h291, if_pos hix, hcl]
          rw [nI_1]
        rw [if_neg (fun z => (hst6.mp z) hw), e2.2.2.1, nI_1, b1', Option.bind_some, htk, Option.bind_some, if_pos ⟨p114, hw⟩]
        obtain ⟨I3, hI3⟩ : ∃ z, z = am_u (am_u (am_u (am_u I2 12 (q_R D) (I2 16 0)) 13 (q_R D) (I2 16 1)) 14 (q_R D) (I2 16 2)) 9 1 (nI (q_R D + 1)) := ⟨_, rfl⟩
        have hI3f : ∀ x y, x ≠ 12 → x ≠ 13 → x ≠ 14 → ¬ (x = 9 ∧ y = 1) → I3 x y = I2 x y := fun x y h1 h2 h3 h4 => by
          rw [hI3]
          unfold am_u
          rw [if_neg h4, if_neg (by omega), if_neg (by omega), if_neg (by omega)]
        have h31 : I3 9 1 = nI (q_R D + 1) := by rw [hI3]; simp [am_u]
        rw [← hI3]
        refine ⟨I3, rfl, fun x y h1 h2 => by rw [hI3f x y (by omega) (by omega) (by omega) (by omega), hI2 x y h1 (by omega)]; exact e3 x y h1, ?_⟩
        cases hq : q_its t 1 (q_W D) 3 0 (q_wot 1) (q_sk t a + 1) with
        | inl f =>
          rw [hq] at b3
          exact ⟨by rw [hI3f 1 1 (by omega) (by omega) (by omega) (by omega)]; exact b3.1, by rw [hI3f 1 3 (by omega) (by omega) (by omega) (by omega)]; exact b3.2, ⟨q_W D, d1, by rw [hI3f 9 0 (by omega) (by omega) (by omega) (by omega), hI2 9 0 (by omega) (by omega)]; exact h90⟩, ⟨q_R D + 1, by omega, h31⟩⟩
        | inr r =>
          rw [hq] at b3
          obtain ⟨c1, c2⟩ := b3
          have hko : ∀ x y, 9 ≤ x → x ≤ 15 → x ≠ 12 → x ≠ 13 → x ≠ 14 → ¬ (x = 9 ∧ y = 1) → I3 x y = I1 x y := fun x y h1 h2 h3 h4 h5 h6 => by rw [hI3f x y h3 h4 h5 h6]; exact hI2 x y (by omega) (by omega)
          refine ⟨c1.of (fun x y hx => hI3f x y (by omega) (by omega) (by omega) (by omega)), ⟨⟨?_, h31, ?_, ?_, ?_⟩, fun p p1 p2 => ?_, fun i hi => ?_⟩, ?_⟩
          · show I3 9 0 = _
            rw [hko 9 0 (by omega) (by omega) (by omega) (by omega) (by omega) (by omega)]; exact h90
          · show I3 9 2 = _
            rw [hko 9 2 (by omega) (by omega) (by omega) (by omega) (by omega) (by omega)]; exact hT1.1.1.2.2.1
          · show I3 9 3 = _
            rw [hko 9 3 (by omega) (by omega) (by omega) (by omega) (by omega) (by omega)]; exact hT1.1.1.2.2.2.1
          · show I3 9 4 = _
            rw [hko 9 4 (by omega) (by omega) (by omega) (by omega) (by omega) (by omega)]; exact hT1.1.1.2.2.2.2
          · obtain ⟨w1, w2⟩ := hT1.1.2.1 p p1 p2
            refine ⟨?_, ?_⟩
            · show I3 10 p = _
              rw [hko 10 p (by omega) (by omega) (by omega) (by omega) (by omega) (by omega)]; exact w1
            · show I3 11 p = _
              rw [hko 11 p (by omega) (by omega) (by omega) (by omega) (by omega) (by omega)]; exact w2
          · have hi' : i < q_R D + 1 := hi
            show I3 12 i = nI (q_tu (q_ho D) (q_R D) (r.2 0) i) ∧ I3 13 i = nI (q_tu (q_wa D) (q_R D) (r.2 1) i) ∧ I3 14 i = nI (q_tu (q_se D) (q_R D) (r.2 2) i)
            unfold q_tu
            by_cases ep : i = q_R D
            · rw [if_pos ep, if_pos ep, if_pos ep, ← c2 0 (by omega), ← c2 1 (by omega), ← c2 2 (by omega), ep, hI3]
              simp [am_u]
            · obtain ⟨w1, w2, w3⟩ := hT1.1.2.2 i (by omega)
              rw [if_neg ep, if_neg ep, if_neg ep, ← w1, ← w2, ← w3, hI3]
              refine ⟨?_, ?_, ?_⟩
              · show _ = I1 12 i
                rw [← hI2 12 i (by omega) (by omega)]
                unfold am_u
                rw [if_neg (by omega), if_neg (by omega), if_neg (by omega), if_neg (by omega)]
              · show _ = I1 13 i
                rw [← hI2 13 i (by omega) (by omega)]
                unfold am_u
                rw [if_neg (by omega), if_neg (by omega), if_neg (by omega), if_neg (by omega)]
              · show _ = I1 14 i
                rw [← hI2 14 i (by omega) (by omega)]
                unfold am_u
                rw [if_neg (by omega), if_neg (by omega), if_neg (by omega), if_neg (by omega)]
          · rw [hko 15 3 (by omega) (by omega) (by omega) (by omega) (by omega) (by omega)]
            exact hT1.2
      · rw [if_pos (hst6.mpr hw), if_neg (fun z => by have := h99.mp z; omega), g1, if_neg (fun z => hw z.2), if_neg (fun z => by have := z.1; omega)]
        exact hfail
    · rw [if_neg (fun z => p114 (h114.mp z)), if_neg (show ¬ (q_pk t (q_sk t a) = 114 ∧ q_R D < 6) from fun z => p114 z.1)]
      by_cases p99 : q_pk t (q_sk t a) = 99
      · rw [if_pos (h99.mpr p99)]
        by_cases hw : told = false
        · subst hw
          have hlt := q_pk_in (t := t) (a := q_sk t a) (by rw [p99]; decide)
          have hX1 : q_XC (am_u (am_u I1 1 2 (nI (q_sk t a + 1))) 15 3 1) t (q_sk t a + 1) (-1) := (e2.at (q_sk t a + 1)).of (fun x y hx => by unfold am_u; rw [if_neg (by omega)])
          obtain ⟨I2, b1, b2, b3⟩ := x_items (n := n) (J := J) (T := T) (kind := 2) (W := q_W D) hn ht (by omega) d1 (a := q_sk t a + 1) hlt hX1 (by unfold am_u; rw [if_neg (by omega), if_neg (by omega)]; exact h90)
          have b1' : f_X3_readItems n (am_u (am_u I1 1 2 (nI (q_sk t a + 1))) 15 3 1) J T 2 = some I2 := b1
          have hI2 : ∀ x y, x ≠ 1 → x ≠ 16 → ¬ (x = 15 ∧ y = 3) → I2 x y = I1 x y := fun x y h1 h2 h3 => by
            rw [b2 x y h1 h2]
            unfold am_u
            rw [if_neg h3, if_neg (by omega)]
          have h153 : I2 15 3 = 1 := by rw [b2 15 3 (by omega) (by omega)]; simp [am_u]
          have htk : f_X3_takeCoach n I2 J T = some (am_u (am_u (am_u I2 9 2 (I2 16 0)) 9 3 (I2 16 1)) 9 4 (I2 16 2)) := rfl
          rw [if_pos (show (if false = true then (1 : Int32) else 0) = 0 by rfl), e2.2.2.1, nI_1, b1', Option.bind_some, htk, Option.bind_some, if_pos ⟨p99, rfl⟩]
          obtain ⟨I3, hI3⟩ : ∃ z, z = am_u (am_u (am_u I2 9 2 (I2 16 0)) 9 3 (I2 16 1)) 9 4 (I2 16 2) := ⟨_, rfl⟩
          have hI3f : ∀ x y, ¬ (x = 9 ∧ 2 ≤ y ∧ y ≤ 4) → I3 x y = I2 x y := fun x y h1 => by
            rw [hI3]
            unfold am_u
            rw [if_neg (by omega), if_neg (by omega), if_neg (by omega)]
          rw [← hI3]
          refine ⟨I3, rfl, fun x y h1 h2 => by rw [hI3f x y (by omega), hI2 x y h1 (by omega) (by omega)]; exact e3 x y h1, ?_⟩
          cases hq : q_its t 2 (q_W D) 3 0 (q_wot 2) (q_sk t a + 1) with
          | inl f =>
            rw [hq] at b3
            exact ⟨by rw [hI3f 1 1 (by omega)]; exact b3.1, by rw [hI3f 1 3 (by omega)]; exact b3.2, ⟨q_W D, d1, by rw [hI3f 9 0 (by omega), hI2 9 0 (by omega) (by omega) (by omega)]; exact h90⟩, ⟨q_R D, d2, by rw [hI3f 9 1 (by omega), hI2 9 1 (by omega) (by omega) (by omega)]; exact h91⟩⟩
          | inr r =>
            rw [hq] at b3
            obtain ⟨c1, c2⟩ := b3
            have hko : ∀ x y, 9 ≤ x → x ≤ 14 → ¬ (x = 9 ∧ 2 ≤ y ∧ y ≤ 4) → I3 x y = I1 x y := fun x y h1 h2 h3 => by rw [hI3f x y h3]; exact hI2 x y (by omega) (by omega) (by omega)
            refine ⟨c1.of (fun x y hx => hI3f x y (by omega)), ⟨⟨?_, ?_, ?_, ?_, ?_⟩, fun p p1 p2 => ?_, fun i hi => ?_⟩, ?_⟩
            · show I3 9 0 = _
              rw [hko 9 0 (by omega) (by omega) (by omega)]; exact h90
            · show I3 9 1 = _
              rw [hko 9 1 (by omega) (by omega) (by omega)]; exact h91
            · show I3 9 2 = nI (r.2 0)
              rw [← c2 0 (by omega), hI3]
              simp [am_u]
            · show I3 9 3 = nI (r.2 1)
              rw [← c2 1 (by omega), hI3]
              simp [am_u]
            · show I3 9 4 = nI (r.2 2)
              rw [← c2 2 (by omega), hI3]
              simp [am_u]
            · obtain ⟨w1, w2⟩ := hT1.1.2.1 p p1 p2
              refine ⟨?_, ?_⟩
              · show I3 10 p = _
                rw [hko 10 p (by omega) (by omega) (by omega)]; exact w1
              · show I3 11 p = _
                rw [hko 11 p (by omega) (by omega) (by omega)]; exact w2
            · obtain ⟨w1, w2, w3⟩ := hT1.1.2.2 i hi
              refine ⟨?_, ?_, ?_⟩
              · show I3 12 i = _
                rw [hko 12 i (by omega) (by omega) (by omega)]; exact w1
              · show I3 13 i = _
                rw [hko 13 i (by omega) (by omega) (by omega)]; exact w2
              · show I3 14 i = _
                rw [hko 14 i (by omega) (by omega) (by omega)]; exact w3
            · rw [hI3f 15 3 (by omega)]
              exact h153
        · have htd : told = true := by simpa using hw
          subst htd
          rw [if_neg (show ¬ (if true = true then (1 : Int32) else 0) = 0 by exact q_10), g1, if_neg (fun z => hw z.2)]
          exact hfail
      · rw [if_neg (fun z => p99 (h99.mp z)), if_neg (show ¬ (q_pk t (q_sk t a) = 99 ∧ told = false) from fun z => p99 z.1), g1]
        exact hfail
end QW
