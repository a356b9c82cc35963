/-! ===== a road's text: clauses, the class ===== -/
def q_addW (D : q_Rd) (v : Nat → Nat) : q_Rd := ((q_W D + 1, D.1.2), q_tu (q_fr D) (q_W D + 1) (v 0), q_tu (q_mi D) (q_W D + 1) (v 1), q_ho D, q_wa D, q_se D)
def q_addR (D : q_Rd) (v : Nat → Nat) : q_Rd := ((q_W D, q_R D + 1, D.1.2.2), q_fr D, q_mi D, q_tu (q_ho D) (q_R D) (v 0), q_tu (q_wa D) (q_R D) (v 1), q_tu (q_se D) (q_R D) (v 2))
def q_setC (D : q_Rd) (v : Nat → Nat) : q_Rd := ((q_W D, q_R D, v 0, v 1, v 2), D.2)
def q_clz (t : q_Tx) (a : Nat) (D : q_Rd) (told : Bool) : Nat ⊕ (Nat × q_Rd × Bool) :=
  if q_pk t (q_sk t a) = 119 ∧ q_W D < 9 then (match q_its t 0 (q_W D) 3 0 (q_wot 0) (q_sk t a + 1) with | .inl f => .inl f | .inr r => .inr (r.1, q_addW D r.2, told))
  else if q_pk t (q_sk t a) = 114 ∧ q_R D < 6 then (match q_its t 1 (q_W D) 3 0 (q_wot 1) (q_sk t a + 1) with | .inl f => .inl f | .inr r => .inr (r.1, q_addR D r.2, told))
  else if q_pk t (q_sk t a) = 99 ∧ told = false then (match q_its t 2 (q_W D) 3 0 (q_wot 2) (q_sk t a + 1) with | .inl f => .inl f | .inr r => .inr (r.1, q_setC D r.2, true))
  else .inl (q_sk t a)
def q_pok (D : q_Rd) : Prop := (q_W D ≤ 9 ∧ q_R D ≤ 6 ∧ q_cs D ≤ 9 ∧ q_pr D ≤ 20 ∧ q_ni D ≤ 99) ∧ (∀ p, 1 ≤ p → p ≤ q_W D → q_fr D p < p ∧ 1 ≤ q_mi D p ∧ q_mi D p ≤ 20) ∧ ∀ r, r < q_R D → 1 ≤ q_ho D r ∧ q_ho D r ≤ 9 ∧ q_wa D r ≤ 99 ∧ 1 ≤ q_se D r ∧ q_se D r ≤ 3
theorem q_wot_ok : ∀ kind, kind < 3 → ∀ i, i < 3 → ∀ W, q_lea kind i ≤ q_wot kind i ∧ q_wot kind i ≤ q_mos kind W i := by
  intro kind hk i hi W
  rcases (show kind = 0 ∨ kind = 1 ∨ kind = 2 by omega) with rfl | rfl | rfl <;> rcases (show i = 0 ∨ i = 1 ∨ i = 2 by omega) with rfl | rfl | rfl <;> simp [q_lea, q_wot, q_mos]
theorem q_pk_in {t : q_Tx} {a : Nat} (h : q_pk t a ≠ 0) : a < t.1 := by
  apply Classical.byContradiction
  intro hc
  exact h (by unfold q_pk; rw [if_neg hc])
theorem q_clz_ok {t : q_Tx} {a : Nat} {D : q_Rd} {told : Bool} (ha : a ≤ t.1) (hD : q_pok D) : (∀ f, q_clz t a D told = .inl f → f ≤ t.1) ∧ (∀ s, q_clz t a D told = .inr s → a < s.1 ∧ s.1 ≤ t.1 ∧ q_pok s.2.1) := by
  have h1 := q_sk_le ha
  obtain ⟨⟨d1, d2, d3, d4, d5⟩, d6, d7⟩ := hD
  unfold q_clz
  by_cases c1 : q_pk t (q_sk t a) = 119 ∧ q_W D < 9
  · rw [if_pos c1]
    have hlt := q_pk_in (t := t) (a := q_sk t a) (by rw [c1.1]; decide)
    obtain ⟨i1, i2⟩ := q_its_ok (t := t) (kind := 0) (W := q_W D) 3 0 (q_wot 0) (q_sk t a + 1) hlt (fun i hi => q_wot_ok 0 (by omega) i hi _)
    cases hq : q_its t 0 (q_W D) 3 0 (q_wot 0) (q_sk t a + 1) with
    | inl f0 => exact ⟨fun f z => (by cases z; exact i1 _ hq), fun s z => (by cases z)⟩
    | inr r =>
      obtain ⟨j1, j2, j3⟩ := i2 _ hq
      refine ⟨fun f z => (by cases z), fun s z => ?_⟩
      cases z
      refine ⟨by show a < r.1; omega, j2, ⟨by show q_W D + 1 ≤ 9; omega, d2, d3, d4, d5⟩, fun p p1 p2 => ?_, d7⟩
      have p2' : p ≤ q_W D + 1 := p2
      show q_tu (q_fr D) (q_W D + 1) (r.2 0) p < p ∧ 1 ≤ q_tu (q_mi D) (q_W D + 1) (r.2 1) p ∧ q_tu (q_mi D) (q_W D + 1) (r.2 1) p ≤ 20
      unfold q_tu
      by_cases e : p = q_W D + 1
      · rw [if_pos e, if_pos e, e]
        have k0 : r.2 0 ≤ q_W D := (j3 0 (by omega)).2
        have k1 : 1 ≤ r.2 1 ∧ r.2 1 ≤ 20 := j3 1 (by omega)
        omega
      · rw [if_neg e, if_neg e]
        exact d6 p p1 (by omega)
  · rw [if_neg c1]
    by_cases c2 : q_pk t (q_sk t a) = 114 ∧ q_R D < 6
    · rw [if_pos c2]
      have hlt := q_pk_in (t := t) (a := q_sk t a) (by rw [c2.1]; decide)
      obtain ⟨i1, i2⟩ := q_its_ok (t := t) (kind := 1) (W := q_W D) 3 0 (q_wot 1) (q_sk t a + 1) hlt (fun i hi => q_wot_ok 1 (by omega) i hi _)
      cases hq : q_its t 1 (q_W D) 3 0 (q_wot 1) (q_sk t a + 1) with
      | inl f0 => exact ⟨fun f z => (by cases z; exact i1 _ hq), fun s z => (by cases z)⟩
      | inr r =>
        obtain ⟨j1, j2, j3⟩ := i2 _ hq
        refine ⟨fun f z => (by cases z), fun s z => ?_⟩
        cases z
        refine ⟨by show a < r.1; omega, j2, ⟨d1, by show q_R D + 1 ≤ 6; omega, d3, d4, d5⟩, d6, fun i hi => ?_⟩
        have hi' : i < q_R D + 1 := hi
        show 1 ≤ q_tu (q_ho D) (q_R D) (r.2 0) i ∧ q_tu (q_ho D) (q_R D) (r.2 0) i ≤ 9 ∧ q_tu (q_wa D) (q_R D) (r.2 1) i ≤ 99 ∧ 1 ≤ q_tu (q_se D) (q_R D) (r.2 2) i ∧ q_tu (q_se D) (q_R D) (r.2 2) i ≤ 3
        unfold q_tu
        by_cases e : i = q_R D
        · rw [if_pos e, if_pos e, if_pos e]
          have k0 : 1 ≤ r.2 0 ∧ r.2 0 ≤ 9 := j3 0 (by omega)
          have k1 : 0 ≤ r.2 1 ∧ r.2 1 ≤ 99 := j3 1 (by omega)
          have k2 : 1 ≤ r.2 2 ∧ r.2 2 ≤ 3 := j3 2 (by omega)
          omega
        · rw [if_neg e, if_neg e, if_neg e]
          exact d7 i (by omega)
    · rw [if_neg c2]
      by_cases c3 : q_pk t (q_sk t a) = 99 ∧ told = false
      · rw [if_pos c3]
        have hlt := q_pk_in (t := t) (a := q_sk t a) (by rw [c3.1]; decide)
        obtain ⟨i1, i2⟩ := q_its_ok (t := t) (kind := 2) (W := q_W D) 3 0 (q_wot 2) (q_sk t a + 1) hlt (fun i hi => q_wot_ok 2 (by omega) i hi _)
        cases hq : q_its t 2 (q_W D) 3 0 (q_wot 2) (q_sk t a + 1) with
        | inl f0 => exact ⟨fun f z => (by cases z; exact i1 _ hq), fun s z => (by cases z)⟩
        | inr r =>
          obtain ⟨j1, j2, j3⟩ := i2 _ hq
          refine ⟨fun f z => (by cases z), fun s z => ?_⟩
          cases z
          have k0 : 1 ≤ r.2 0 ∧ r.2 0 ≤ 9 := j3 0 (by omega)
          have k1 : 1 ≤ r.2 1 ∧ r.2 1 ≤ 20 := j3 1 (by omega)
          have k2 : 0 ≤ r.2 2 ∧ r.2 2 ≤ 99 := j3 2 (by omega)
          exact ⟨by show a < r.1; omega, j2, ⟨d1, d2, k0.2, k1.2, k2.2⟩, d6, d7⟩
      · rw [if_neg c3]
        exact ⟨fun f z => (by cases z; exact h1.2), fun s z => (by cases z)⟩
section QW
variable {n : Nat} {J : Nat → Nat → Int64} {T : Nat} {t : q_Tx}
theorem x_items_f (hn : 300 ≤ n) {kind k : Nat} (hk : kind < 3) {I : Nat → Nat → Int32} (h : I 1 3 ≠ -1) (x2 x3 : Int32) : f_X3_readItems_9 n (k + 1) I J T (nI kind) x2 x3 = some I := by
  rw [f_X3_readItems_9]
  by_cases h3 : 3 ≤ x3
  · rw [if_pos h3]
  · have hio : f_X3_itemOf n I J T (nI kind) (-1) = some (-1) := by
      have h0 := x_itemOf (n := n) (I := I) (J := J) (T := T) (p := 0) hn hk (by omega)
      have e : q_itm kind 0 = 3 := by unfold q_itm; split; rfl; split <;> rfl
      rw [e, if_pos rfl] at h0
      exact h0
    rw [if_neg h3, x_sign_f h, Option.bind_some, hio, Option.bind_some, if_pos rfl]
theorem x_items_loop (hn : 300 ≤ n) (ht : q_tok t) {kind W : Nat} (hk : kind < 3) (hW : W ≤ 9) : ∀ (k m c had : Nat) (vals : Nat → Nat) (a : Nat) (I : Nat → Nat → Int32), c + m = 3 → m < k → had < 64 → a ≤ t.1 → (∀ j, j < 3 → I 16 j = nI (vals j)) → q_XC I t a (-1) → I 9 0 = nI W → ∃ I', f_X3_readItems_9 n k I J T (nI kind) (nI had) (nI c) = some I' ∧ (∀ x y, x ≠ 1 → x ≠ 16 → I' x y = I x y) ∧ match q_its t kind W m had vals a with
    | .inl f => I' 1 1 = nI t.1 ∧ I' 1 3 = nI f
    | .inr r => q_XC I' t r.1 (-1) ∧ ∀ j, j < 3 → I' 16 j = nI (r.2 j) := by
  intro k
  induction k with
  | zero => intro m c had vals a I _ h; omega
  | succ k ih =>
    intro m c had vals a I h1 h2 hh ha hv h h9
    have h160 := ht.1
    cases m with
    | zero =>
      have e : c = 3 := by omega
      subst e
      rw [f_X3_readItems_9, if_pos (show (3 : Int32) ≤ nI 3 by decide +kernel)]
      exact ⟨I, rfl, fun _ _ _ _ => rfl, h, hv⟩
    | succ m =>
      obtain ⟨I1, e1, e2, e3⟩ := x_sign (n := n) (J := J) (T := T) hn ht ha h
      have hp := q_pk_lt ht (q_sk t a)
      have hs := q_sk_le ha
      have hil := q_itm_lt kind (q_pk t (q_sk t a))
      rw [f_X3_readItems_9, if_neg (show ¬ (3 : Int32) ≤ nI c from nI_ge (b := 3) (by omega) (by omega)), e1, Option.bind_some]
      simp only []
      rw [x_itemOf hn hk hp.1, Option.bind_some]
      unfold q_its
      by_cases c1 : q_itm kind (q_pk t (q_sk t a)) = 3
      · rw [if_pos c1, if_pos rfl, if_pos (Or.inl c1)]
        exact ⟨I1, rfl, fun x y hx _ => e3 x y hx, e2, fun j hj => by rw [e3 16 j (by omega)]; exact hv j hj⟩
      · rw [if_neg c1, if_neg (q_nIm1 (by omega))]
        have hq := q_has (S := had) (r := q_itm kind (q_pk t (q_sk t a))) (by omega) (by omega)
        by_cases c2 : had.testBit (q_itm kind (q_pk t (q_sk t a))) = true
        · rw [if_pos (hq.mpr c2), if_pos (Or.inr c2)]
          exact ⟨I1, rfl, fun x y hx _ => e3 x y hx, e2, fun j hj => by rw [e3 16 j (by omega)]; exact hv j hj⟩
        · rw [if_neg (fun z => c2 (hq.mp z)), if_neg (fun z => z.elim c1 c2), e2.2.2.1, nI_1]
          have hne : q_pk t (q_sk t a) ≠ 0 := fun z => c1 (by rw [z]; unfold q_itm; split; rfl; split <;> rfl)
          have hlt := q_pk_in hne
          obtain ⟨v, I2, b1, b2, b3⟩ := x_bound (n := n) (J := J) (T := T) (kind := kind) (i := q_itm kind (q_pk t (q_sk t a))) (W := W) hn ht hk (by omega) hW (a := q_sk t a + 1) hlt (e2.at (q_sk t a + 1)) (by unfold am_u; rw [if_neg (by omega), e3 9 0 (by omega)]; exact h9)
          have hix : ok_ix (nI (q_itm kind (q_pk t (q_sk t a)))) 3 := q_ix (by omega) (by omega)
          have hcl : (nI (q_itm kind (q_pk t (q_sk t a)))).toNatClampNeg = q_itm kind (q_pk t (q_sk t a)) := q_cl (by omega)
          obtain ⟨s1, s2⟩ := q_shl6 (q_itm kind (q_pk t (q_sk t a))) (by omega)
          have hfr : ∀ x y, x ≠ 1 → x ≠ 16 → am_u I2 16 (q_itm kind (q_pk t (q_sk t a))) v x y = I x y := fun x y h1 h16 => by
            unfold am_u
            rw [if_neg (by omega), b2 x y h1]
            unfold am_u
            rw [if_neg (by omega), e3 x y h1]
          rw [b1, Option.bind_some, if_pos hix, hcl, s1, q_or, nI_1]
          obtain ⟨n1, n2⟩ := q_num_le (t := t) (lo := q_lea kind (q_itm kind (q_pk t (q_sk t a)))) (hi := q_mos kind W (q_itm kind (q_pk t (q_sk t a)))) (a := q_sk t a + 1) hlt
          cases hn2 : q_num t (q_lea kind (q_itm kind (q_pk t (q_sk t a)))) (q_mos kind W (q_itm kind (q_pk t (q_sk t a)))) (q_sk t a + 1) with
          | inl f =>
            rw [hn2] at b3
            obtain ⟨b31, b32⟩ := b3
            have hfle := n1 f hn2
            obtain ⟨k', hk'⟩ : ∃ k', k = k' + 1 := ⟨k - 1, by omega⟩
            have hfail : (am_u I2 16 (q_itm kind (q_pk t (q_sk t a))) v) 1 3 ≠ -1 := by
              unfold am_u
              rw [if_neg (by omega), b32]
              exact q_nIm1 (by omega)
            rw [hk', x_items_f hn hk hfail]
            refine ⟨_, rfl, hfr, ?_, ?_⟩
            · unfold am_u
              rw [if_neg (by omega)]
              exact b31
            · unfold am_u
              rw [if_neg (by omega)]
              exact b32
          | inr r =>
            rw [hn2] at b3
            obtain ⟨b31, b32⟩ := b3
            obtain ⟨m1, m2, m3, m4⟩ := n2 r hn2
            obtain ⟨I', f1, f2, f3⟩ := ih m (c + 1) (had ||| 2 ^ q_itm kind (q_pk t (q_sk t a))) (q_tu vals (q_itm kind (q_pk t (q_sk t a))) r.2) r.1 (am_u I2 16 (q_itm kind (q_pk t (q_sk t a))) v) (by omega) (by omega) (Nat.or_lt_two_pow (n := 6) hh s2) m2 (fun j hj => by
              unfold q_tu
              by_cases ej : j = q_itm kind (q_pk t (q_sk t a))
              · rw [if_pos ej, ej, b31]
                simp [am_u]
              · rw [if_neg ej, ← hv j hj, ← e3 16 j (by omega)]
                unfold am_u
                rw [if_neg (by omega), b2 16 j (by omega)]
                unfold am_u
                rw [if_neg (by omega)]) (b32.of (fun x y hx => by unfold am_u; rw [if_neg (by omega)])) (by rw [hfr 9 0 (by omega) (by omega)]; exact h9)
            exact ⟨I', f1, fun x y hx hx2 => by rw [f2 x y hx hx2]; exact hfr x y hx hx2, f3⟩
theorem x_fillW {kind : Nat} (hn : 300 ≤ n) (hk : kind < 3) (I : Nat → Nat → Int32) : ∃ I', f_X3_fillWithout n I J T (nI kind) = some I' ∧ (∀ j, j < 3 → I' 16 j = nI (q_wot kind j)) ∧ ∀ x y, x ≠ 16 → I' x y = I x y := by
  have loop : ∀ (m c : Nat) (I : Nat → Nat → Int32), c ≤ 3 → 3 - c < m → ∃ I', f_X3_fillWithout_2 n m I J T (nI kind) (nI c) = some I' ∧ (∀ j, c ≤ j → j < 3 → I' 16 j = nI (q_wot kind j)) ∧ (∀ j, j < c → I' 16 j = I 16 j) ∧ ∀ x y, x ≠ 16 → I' x y = I x y := by
    intro m
    induction m with
    | zero => intro c I _ h; omega
    | succ m ih =>
      intro c I hc hm
      rw [f_X3_fillWithout_2]
      by_cases e : c = 3
      · subst e
        rw [if_pos (show (3 : Int32) ≤ nI 3 by decide +kernel)]
        exact ⟨I, rfl, fun j a b => by omega, fun _ _ => rfl, fun _ _ _ => rfl⟩
      · obtain ⟨t1, t2, t3, t4⟩ := x_tabs kind hk c (by omega)
        have hix : ok_ix (nI (kind * 3 + c)) 9 := q_ix (by omega) (by omega)
        have hix2 : ok_ix (nI c) 3 := q_ix (by omega) (by omega)
        have hcl : (nI c).toNatClampNeg = c := q_cl (by omega)
        rw [if_neg (show ¬ (3 : Int32) ≤ nI c from nI_ge (b := 3) (by omega) (by omega)), t1, if_pos hix, if_pos hix2, hcl, t4, nI_1]
        obtain ⟨I', f1, f2, f3, f4⟩ := ih (c + 1) (am_u I 16 c (nI (q_wot kind c))) (by omega) (by omega)
        refine ⟨I', f1, fun j a b => ?_, fun j a => ?_, fun x y hx => ?_⟩
        · by_cases ej : j = c
          · rw [ej, f3 c (by omega)]
            simp [am_u]
          · exact f2 j (by omega) b
        · rw [f3 j (by omega)]
          unfold am_u
          rw [if_neg (by omega)]
        · rw [f4 x y hx]
          unfold am_u
          rw [if_neg (by omega)]
  obtain ⟨I', f1, f2, f3, f4⟩ := loop n 0 I (by omega) (by omega)
  exact ⟨I', f1, fun j hj => f2 j (Nat.zero_le _) hj, f4⟩
theorem x_items (hn : 300 ≤ n) (ht : q_tok t) {kind W a : Nat} (hk : kind < 3) (hW : W ≤ 9) {I : Nat → Nat → Int32} (ha : a ≤ t.1) (h : q_XC I t a (-1)) (h9 : I 9 0 = nI W) : ∃ I', f_X3_readItems n I J T (nI kind) = some I' ∧ (∀ x y, x ≠ 1 → x ≠ 16 → I' x y = I x y) ∧ match q_its t kind W 3 0 (q_wot kind) a with
    | .inl f => I' 1 1 = nI t.1 ∧ I' 1 3 = nI f
    | .inr r => q_XC I' t r.1 (-1) ∧ ∀ j, j < 3 → I' 16 j = nI (r.2 j) := by
  obtain ⟨I1, e1, e2, e3⟩ := x_fillW (n := n) (J := J) (T := T) hn hk I
  obtain ⟨I', f1, f2, f3⟩ := x_items_loop (n := n) (J := J) (T := T) hn ht hk hW n 3 0 0 (q_wot kind) a I1 rfl (by omega) (by omega) ha e2 (h.of (fun x y hx => e3 x y (by omega))) (by rw [e3 9 0 (by omega)]; exact h9)
  have f1' : f_X3_readItems_9 n n I1 J T (nI kind) 0 0 = _ := f1
  unfold f_X3_readItems
  rw [e1, Option.bind_some, f1']
  exact ⟨I', rfl, fun x y h1 h2 => by rw [f2 x y h1 h2]; exact e3 x y h2, f3⟩
end QW
