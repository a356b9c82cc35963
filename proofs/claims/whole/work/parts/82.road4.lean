/-! ===== a road's text read, the class ===== -/
def q_wh (D : q_Rd) : Bool := decide (0 < q_W D) && (decide (0 < q_R D) && (List.range (q_R D)).all (fun r => decide (q_ho D r ≤ q_W D)))
theorem q_wh_iff (D : q_Rd) : q_wh D = true ↔ (0 < q_W D ∧ 0 < q_R D ∧ ∀ r, r < q_R D → q_ho D r ≤ q_W D) := by
  unfold q_wh
  rw [Bool.and_eq_true, Bool.and_eq_true, decide_eq_true_eq, decide_eq_true_eq, List.all_eq_true]
  constructor
  · rintro ⟨a, b, c⟩
    exact ⟨a, b, fun r hr => by have := c r (List.mem_range.mpr hr); rwa [decide_eq_true_eq] at this⟩
  · rintro ⟨a, b, c⟩
    exact ⟨a, b, fun r hr => by rw [decide_eq_true_eq]; exact c r (List.mem_range.mp hr)⟩
def q_rl (t : q_Tx) : Nat → Nat → q_Rd → Bool → Nat ⊕ q_Rd
  | 0, _, _, _ => .inl 0
  | m + 1, a, D, told =>
    if q_pk t (q_sk t a) = 59 then (match q_clz t (q_sk t a + 1) D told with | .inl f => .inl f | .inr s => q_rl t m s.1 s.2.1 s.2.2)
    else if q_pk t (q_sk t a) = 0 then (if q_wh D = true then .inr D else .inl t.1) else .inl (q_sk t a)
def q_D0 : q_Rd := ((0, 0, 4, 1, 99), (fun _ => 0), (fun _ => 0), (fun _ => 0), (fun _ => 0), fun _ => 0)
/-- a road's text: a fault's place, or the road -/
def q_rd (t : q_Tx) : Nat ⊕ q_Rd := match q_clz t 0 q_D0 false with
  | .inl f => .inl f
  | .inr s => q_rl t 200 s.1 s.2.1 s.2.2
theorem q_pok_0 : q_pok q_D0 := ⟨⟨by decide, by decide, by decide, by decide, by decide⟩, fun p a b => by have b' : p ≤ 0 := b; omega, fun r h => by have h' : r < 0 := h; omega⟩
section QW
variable {n : Nat} {J : Nat → Nat → Int64} {T : Nat} {t : q_Tx}
theorem x_wh_loop {I : Nat → Nat → Int32} {W R : Nat} (hR : R ≤ 6) (h0 : I 9 0 = nI W) (h1 : I 9 1 = nI R) : ∀ (m r : Nat) (b : Bool), r ≤ R → R - r < m → ∃ b' : Bool, f_X2_isWhole_22 n m I J T (if b = true then 1 else 0) (nI r) = some (if b' = true then 1 else 0) ∧ (b' = true ↔ (b = true ∧ ∀ l, r ≤ l → l < R → ¬ nI W < I 12 l)) := by
  intro m
  induction m with
  | zero => intro r b _ h; omega
  | succ m ih =>
    intro r b hr hm
    rw [f_X2_isWhole_22, h1, h0]
    by_cases e : r = R
    · subst e
      rw [if_pos (Int32.le_refl _)]
      refine ⟨b, ?_, fun z => ⟨z, fun l a b => by omega⟩, fun z => z.1⟩
      cases b <;> rfl
    · have hix : ok_ix (nI r) 6 := q_ix (by omega) (by omega)
      have hcl : (nI r).toNatClampNeg = r := q_cl (by omega)
      rw [if_neg (nI_ge (by omega) (by omega))]
      unfold f_X2_isWhole_51 f_X2_isWhole_52
      rw [nI_1]
      cases b with
      | false =>
        rw [if_pos (show (if false = true then (1 : Int32) else 0) = 0 by rfl)]
        obtain ⟨b', f1, f2⟩ := ih (r + 1) false (by omega) (by omega)
        rw [if_neg (by decide)] at f1
        refine ⟨b', f1, ?_⟩
        rw [f2]
        exact ⟨fun z => (by cases z.1), fun z => (by cases z.1)⟩
      | true =>
        rw [if_neg (show ¬ (if true = true then (1 : Int32) else 0) = 0 by exact q_10), if_pos hix, hcl]
        by_cases hc : nI W < I 12 r
        · rw [if_pos hc]
          obtain ⟨b', f1, f2⟩ := ih (r + 1) false (by omega) (by omega)
          rw [if_neg (by decide)] at f1
          refine ⟨b', f1, ?_⟩
          rw [f2]
          exact ⟨fun z => (by cases z.1), fun z => absurd hc (z.2 r (Nat.le_refl _) (by omega))⟩
        · rw [if_neg hc]
          obtain ⟨b', f1, f2⟩ := ih (r + 1) true (by omega) (by omega)
          rw [if_pos rfl] at f1
          refine ⟨b', f1, ?_⟩
          rw [f2]
          refine ⟨fun z => ⟨rfl, fun l a b => ?_⟩, fun z => ⟨rfl, fun l a b => z.2 l (by omega) b⟩⟩
          by_cases el : l = r
          · rw [el]; exact hc
          · exact z.2 l (by omega) b
theorem x_wh (hn : 300 ≤ n) {I : Nat → Nat → Int32} {W R : Nat} (hW : W ≤ 9) (hR : R ≤ 6) (h0 : I 9 0 = nI W) (h1 : I 9 1 = nI R) : ∃ b : Bool, f_X2_isWhole n I J T = some (if b = true then 1 else 0) ∧ (b = true ↔ (0 < W ∧ 0 < R ∧ ∀ l, l < R → ¬ nI W < I 12 l)) := by
  unfold f_X2_isWhole f_X2_isWhole_18 f_X2_isWhole_19
  rw [h0, h1]
  obtain ⟨b0, z1, z2⟩ := x_wh_loop (n := n) (I := I) (J := J) (T := T) hR h0 h1 n 0 false (Nat.zero_le _) (by omega)
  obtain ⟨b1, y1, y2⟩ := x_wh_loop (n := n) (I := I) (J := J) (T := T) hR h0 h1 n 0 true (Nat.zero_le _) (by omega)
  have z1' : f_X2_isWhole_22 n n I J T 0 0 = some (if b0 = true then 1 else 0) := z1
  have y1' : f_X2_isWhole_22 n n I J T 1 0 = some (if b1 = true then 1 else 0) := y1
  by_cases c1 : W = 0
  · subst c1
    rw [if_pos (show nI 0 ≤ 0 by decide +kernel), z1']
    refine ⟨b0, rfl, ?_⟩
    rw [z2]
    exact ⟨fun z => (by cases z.1), fun z => absurd z.1 (by omega)⟩
  · rw [if_neg (nI_nle (by omega) (by omega))]
    by_cases c2 : R = 0
    · subst c2
      rw [if_pos (show nI 0 ≤ 0 by decide +kernel), z1']
      refine ⟨b0, rfl, ?_⟩
      rw [z2]
      exact ⟨fun z => (by cases z.1), fun z => absurd z.2.1 (by omega)⟩
    · rw [if_neg (nI_nle (by omega) (by omega)), y1']
      refine ⟨b1, rfl, ?_⟩
      rw [y2]
      exact ⟨fun z => ⟨by omega, by omega, fun l hl => z.2 l (Nat.zero_le _) hl⟩, fun z => ⟨rfl, fun l _ hl => z.2.2 l hl⟩⟩
theorem x_read39_f (hn : 300 ≤ n) {f : Nat} (hf : f < 2 ^ 30) {I : Nat → Nat → Int32} (h : q_XF I t f) : f_X3_read_39 n I J T = some (nI f, I) := by
  obtain ⟨h1, h2, ⟨W, w1, w2⟩, ⟨R, r1, r2⟩⟩ := h
  have hne : I 1 3 ≠ -1 := by rw [h2]; exact q_nIm1 hf
  obtain ⟨b, b1, -⟩ := x_wh (n := n) (I := I) (J := J) (T := T) hn w1 r1 w2 r2
  unfold f_X3_read_39
  rw [x_sign_f hne, Option.bind_some, if_pos rfl]
  unfold f_X3_read_64 f_X3_read_88
  rw [b1, Option.bind_some]
  simp only []
  by_cases c : (if b = true then (1 : Int32) else 0) = 0
  · rw [if_pos c, x_fail_f hne, Option.bind_some, h2]
  · rw [if_neg c, h2]
theorem x_read39 (hn : 300 ≤ n) (ht : q_tok t) {a : Nat} (ha : a ≤ t.1) {I : Nat → Nat → Int32} {D : q_Rd} {told : Bool} (h : q_XC I t a (-1)) (hD : q_pok D) (hT : q_XT I D told) : ∃ v I', f_X3_read_39 n I J T = some (v, I') ∧ (∀ x y, x ≠ 1 → I' x y = I x y) ∧ I' 1 1 = nI t.1 ∧ v = (if q_pk t (q_sk t a) = 0 then (if q_wh D = true then -1 else nI t.1) else nI (q_sk t a)) := by
  have h160 := ht.1
  have hs := q_sk_le ha
  have hp := q_pk_lt ht (q_sk t a)
  obtain ⟨I1, e1, e2, e3⟩ := x_sign (n := n) (J := J) (T := T) hn ht ha h
  have hT1 : q_XT I1 D told := hT.of (fun x y h1 h2 => e3 x y (by omega))
  have hwh : ∀ I2 : Nat → Nat → Int32, (∀ x y, x ≠ 1 → I2 x y = I1 x y) → f_X2_isWhole n I2 J T = some (if q_wh D = true then 1 else 0) := by
    intro I2 hI2
    have hT2 : q_XT I2 D told := hT1.of (fun x y h1 h2 => hI2 x y (by omega))
    obtain ⟨b, b1, b2⟩ := x_wh (n := n) (I := I2) (J := J) (T := T) hn hD.1.1 hD.1.2.1 hT2.1.1.1 hT2.1.1.2.1
    have hb : b = q_wh D := by
      rw [Bool.eq_iff_iff, b2, q_wh_iff]
      have key : ∀ l, l < q_R D → (¬ nI (q_W D) < I2 12 l ↔ q_ho D l ≤ q_W D) := fun l hl => by
        have e : I2 12 l = nI (q_ho D l) := (hT2.1.2.2 l hl).1
        have hh := (hD.2.2 l hl).2.1
        have hW := hD.1.1
        rw [e]
        constructor
        · intro z
          apply Classical.byContradiction
          intro hc
          exact z (nI_lt (by omega) (by omega))
        · intro z
          exact nI_nlt z (by omega)
      exact ⟨fun z => ⟨z.1, z.2.1, fun l hl => (key l hl).mp (z.2.2 l hl)⟩, fun z => ⟨z.1, z.2.1, fun l hl => (key l hl).mpr (z.2.2 l hl)⟩⟩
    rw [b1, hb]
  unfold f_X3_read_39
  rw [e1, Option.bind_some]
  simp only []
  unfold f_X3_read_64 f_X3_read_88
  by_cases c : q_pk t (q_sk t a) = 0
  · rw [if_pos ((q_sg_m1 hp.1).mpr c), if_pos c, hwh I1 (fun _ _ _ => rfl), Option.bind_some]
    by_cases cw : q_wh D = true
    · rw [if_pos cw, if_neg (by exact q_10), if_pos cw, e2.2.2.2]
      exact ⟨_, I1, rfl, e3, e2.1, rfl⟩
    · rw [if_neg cw, if_pos rfl, if_neg cw, e2.1, x_fail e2, Option.bind_some]
      refine ⟨_, _, rfl, fun x y hx => by rw [q_fu1 x y hx]; exact e3 x y hx, (e2.wr _).1, ?_⟩
      exact (e2.wr _).2.2.2
  · rw [if_neg (fun z => c ((q_sg_m1 hp.1).mp z)), if_neg c, e2.2.2.1, x_fail e2, Option.bind_some]
    rw [hwh _ (fun x y hx => q_fu1 x y hx), Option.bind_some]
    have hX := e2.wr (nI (q_sk t a))
    have hne : (am_u I1 1 3 (nI (q_sk t a))) 1 3 ≠ -1 := by rw [hX.2.2.2]; exact q_nIm1 (by omega)
    by_cases cw : q_wh D = true
    · rw [if_pos cw, if_neg (by exact q_10), hX.2.2.2]
      exact ⟨_, _, rfl, fun x y hx => by rw [q_fu1 x y hx]; exact e3 x y hx, hX.1, rfl⟩
    · rw [if_neg cw, if_pos rfl, x_fail_f hne, Option.bind_some, hX.2.2.2]
      exact ⟨_, _, rfl, fun x y hx => by rw [q_fu1 x y hx]; exact e3 x y hx, hX.1, rfl⟩
theorem x_rl (hn : 300 ≤ n) (ht : q_tok t) : ∀ (k m c a : Nat) (D : q_Rd) (told : Bool) (I : Nat → Nat → Int32), a ≤ t.1 → c + (t.1 - a) ≤ 160 → t.1 - a < m → t.1 - a + 1 < k → q_XC I t a (-1) → q_pok D → q_XT I D told → ∃ v I', f_X3_read_10 n k I J T (nI c) = some (v, I') ∧ (∀ x y, x ≠ 1 → ¬ (9 ≤ x ∧ x ≤ 16) → I' x y = I x y) ∧ I' 1 1 = nI t.1 ∧ match q_rl t m a D told with
    | .inl f => v = nI f ∧ f ≤ t.1
    | .inr D' => v = -1 ∧ q_RX (fun a k => I' (a + 6) k) D' ∧ q_pok D' ∧ q_wh D' = true := by
  have h160 := ht.1
  intro k
  induction k with
  | zero => intro m c a D told I _ _ _ h; omega
  | succ k ih =>
    intro m c a D told I ha hc hm hk h hD hT
    obtain ⟨m, rfl⟩ : ∃ z, m = z + 1 := ⟨m - 1, by omega⟩
    have hs := q_sk_le ha
    have hp := q_pk_lt ht (q_sk t a)
    have fin : ∀ (I1 : Nat → Nat → Int32) (b : Nat), b ≤ t.1 → q_sk t b = q_sk t a → q_XC I1 t b (-1) → q_XT I1 D told → (∀ x y, x ≠ 1 → I1 x y = I x y) → q_pk t (q_sk t a) ≠ 59 → ∃ v I', f_X3_read_39 n I1 J T = some (v, I') ∧ (∀ x y, x ≠ 1 → ¬ (9 ≤ x ∧ x ≤ 16) → I' x y = I x y) ∧ I' 1 1 = nI t.1 ∧ match q_rl t (m + 1) a D told with
        | .inl f => v = nI f ∧ f ≤ t.1
        | .inr D' => v = -1 ∧ q_RX (fun a k => I' (a + 6) k) D' ∧ q_pok D' ∧ q_wh D' = true := by
      intro I1 b hb hbs hX1 hT1 hf1 h59
      obtain ⟨v, I', f1, f2, f3, f4⟩ := x_read39 (n := n) (J := J) (T := T) hn ht hb hX1 hD hT1
      rw [hbs] at f4
      refine ⟨v, I', f1, fun x y h1 h2 => by rw [f2 x y h1]; exact hf1 x y h1, f3, ?_⟩
      unfold q_rl
      rw [if_neg h59]
      by_cases c0 : q_pk t (q_sk t a) = 0
      · rw [if_pos c0] at f4 ⊢
        by_cases cw : q_wh D = true
        · rw [if_pos cw] at f4 ⊢
          exact ⟨f4, (hT1.of (fun x y h1 h2 => f2 x y (by omega))).1, hD, cw⟩
        · rw [if_neg cw] at f4 ⊢
          exact ⟨f4, Nat.le_refl _⟩
      · rw [if_neg c0] at f4 ⊢
        exact ⟨f4, hs.2⟩
    rw [f_X3_read_10]
    by_cases c160 : c = 160
    · have hN : a = t.1 := by omega
      have hpk : q_pk t (q_sk t a) = 0 := (hp.2).mpr (by omega)
      rw [if_pos (show (160 : Int32) ≤ nI c by rw [c160]; decide +kernel)]
      exact fin I a ha rfl h hT (fun _ _ _ => rfl) (by rw [hpk]; decide)
    · obtain ⟨I1, e1, e2, e3⟩ := x_takes (n := n) (J := J) (T := T) (p := 59) hn ht (by omega) (by omega) ha h
      have e1' : f_X10_takes n I J T 59 = _ := e1
      have hT1 : q_XT I1 D told := hT.of (fun x y h1 h2 => e3 x y (by omega))
      rw [if_neg (show ¬ (160 : Int32) ≤ nI c from nI_ge (b := 160) (by omega) (by omega)), e1', Option.bind_some]
      simp only []
      by_cases c59 : q_pk t (q_sk t a) = 59
      · rw [if_pos c59] at e2
        have hlt := q_pk_in (t := t) (a := q_sk t a) (by rw [c59]; decide)
        obtain ⟨k1, k2⟩ := q_clz_ok (t := t) (a := q_sk t a + 1) (D := D) (told := told) hlt hD
        obtain ⟨I2, g1, g2, g3⟩ := x_clause (n := n) (J := J) (T := T) hn ht hlt e2 hD hT1
        rw [if_pos c59, if_neg (by exact q_10), g1, Option.bind_some, nI_1]
        unfold q_rl
        rw [if_pos c59]
        cases hq : q_clz t (q_sk t a + 1) D told with
        | inl f =>
          rw [hq] at g3
          have hfl := k1 f hq
          have h39 := x_read39_f (n := n) (J := J) (T := T) hn (show f < 2 ^ 30 by omega) g3
          obtain ⟨k', rfl⟩ : ∃ z, k = z + 1 := ⟨k - 1, by omega⟩
          have hne : I2 1 3 ≠ -1 := by rw [g3.2.1]; exact q_nIm1 (by omega)
          have hend : f_X3_read_10 n (k' + 1) I2 J T (nI (c + 1)) = some (nI f, I2) := by
            rw [f_X3_read_10, h39]
            by_cases cc : 160 ≤ nI (c + 1)
            · rw [if_pos cc]
            · have htf : f_X10_takes n I2 J T 59 = some (0, I2) := x_takes_f (p := 59) (by omega) hne
              rw [if_neg cc, htf, Option.bind_some]
              rw [if_pos rfl, h39]
          rw [hend]
          exact ⟨_, I2, rfl, fun x y h1 h2 => by rw [g2 x y h1 h2]; exact e3 x y h1, g3.1, rfl, hfl⟩
        | inr s =>
          rw [hq] at g3
          obtain ⟨g31, g32⟩ := g3
          obtain ⟨s1, s2, s3⟩ := k2 s hq
          obtain ⟨v, I', f1, f2, f3, f4⟩ := ih m (c + 1) s.1 s.2.1 s.2.2 I2 s2 (by omega) (by omega) (by omega) g31 s3 g32
          exact ⟨v, I', f1, fun x y h1 h2 => by rw [f2 x y h1 h2, g2 x y h1 h2]; exact e3 x y h1, f3, f4⟩
      · rw [if_neg c59] at e2
        rw [if_neg c59, if_pos rfl]
        exact fin I1 (q_sk t a) hs.2 (q_sk_sk ha) e2 hT1 e3 c59
theorem x_read (hn : 300 ≤ n) (ht : q_tok t) {I : Nat → Nat → Int32} (hN : I 1 1 = nI t.1) (hb : ∀ i, i < t.1 → I 2 i = q_by (t.2 i)) : ∃ v I', f_X3_read n I J T = some (v, I') ∧ (∀ x y, x ≠ 1 → ¬ (9 ≤ x ∧ x ≤ 16) → I' x y = I x y) ∧ I' 1 1 = nI t.1 ∧ match q_rd t with
    | .inl f => v = nI f ∧ f ≤ t.1
    | .inr D => v = -1 ∧ q_RX (fun a k => I' (a + 6) k) D ∧ q_pok D ∧ q_wh D = true := by
  have h160 := ht.1
  obtain ⟨I0, hI0⟩ : ∃ z, z = am_u (am_u (am_u (am_u (am_u I 1 2 0) 1 3 (-1)) 9 0 0) 9 1 0) 15 3 0 := ⟨_, rfl⟩
  have hI0f : ∀ x y, x ≠ 1 → x ≠ 9 → x ≠ 15 → I0 x y = I x y := fun x y h1 h2 h3 => by
    rw [hI0]
    unfold am_u
    rw [if_neg (by omega), if_neg (by omega), if_neg (by omega), if_neg (by omega), if_neg (by omega)]
  obtain ⟨I1, a1, a2, a3⟩ := x_fillW (n := n) (J := J) (T := T) (kind := 2) hn (by omega) I0
  have a1' : f_X3_fillWithout n I0 J T 2 = some I1 := a1
  obtain ⟨I2, hI2⟩ : ∃ z, z = am_u (am_u (am_u I1 9 2 (I1 16 0)) 9 3 (I1 16 1)) 9 4 (I1 16 2) := ⟨_, rfl⟩
  have hI2f : ∀ x y, ¬ (x = 9 ∧ 2 ≤ y ∧ y ≤ 4) → I2 x y = I1 x y := fun x y h => by
    rw [hI2]
    unfold am_u
    rw [if_neg (by omega), if_neg (by omega), if_neg (by omega)]
  have hbegin : f_X3_begin n I J T = some I2 := by
    unfold f_X3_begin f_X10_begin f_X3_takeCoach
    rw [Option.bind_some, ← hI0, a1', Option.bind_some, ← hI2, Option.bind_some]
  have hX : q_XC I2 t 0 (-1) := by
    refine ⟨?_, fun i hi => ?_, ?_, ?_⟩
    · rw [hI2f 1 1 (by omega), a3 1 1 (by omega), hI0, ← hN]
      simp [am_u]
    · rw [hI2f 2 i (by omega), a3 2 i (by omega), hI0f 2 i (by omega) (by omega) (by omega)]
      exact hb i hi
    · rw [hI2f 1 2 (by omega), a3 1 2 (by omega), hI0]
      simp [am_u]
      rfl
    · rw [hI2f 1 3 (by omega), a3 1 3 (by omega), hI0]
      simp [am_u]
  have hT : q_XT I2 q_D0 false := by
    refine ⟨⟨⟨?_, ?_, ?_, ?_, ?_⟩, fun p p1 p2 => by have p2' : p ≤ 0 := p2; omega, fun r hr => by have hr' : r < 0 := hr; omega⟩, ?_⟩
    · show I2 9 0 = nI 0
      rw [hI2f 9 0 (by omega), a3 9 0 (by omega), hI0]
      simp [am_u]
      rfl
    · show I2 9 1 = nI 0
      rw [hI2f 9 1 (by omega), a3 9 1 (by omega), hI0]
      simp [am_u]
      rfl
    · show I2 9 2 = nI 4
      rw [show nI 4 = nI (q_wot 2 0) from rfl, ← a2 0 (by omega), hI2]
      simp [am_u]
    · show I2 9 3 = nI 1
      rw [show nI 1 = nI (q_wot 2 1) from rfl, ← a2 1 (by omega), hI2]
      simp [am_u]
    · show I2 9 4 = nI 99
      rw [show nI 99 = nI (q_wot 2 2) from rfl, ← a2 2 (by omega), hI2]
      simp [am_u]
    · rw [hI2f 15 3 (by omega), a3 15 3 (by omega), hI0]
      simp [am_u]
  have hfr : ∀ x y, x ≠ 1 → ¬ (9 ≤ x ∧ x ≤ 16) → I2 x y = I x y := fun x y h1 h2 => by
    rw [hI2f x y (by omega), a3 x y (by omega)]
    exact hI0f x y h1 (by omega) (by omega)
  obtain ⟨k1, k2⟩ := q_clz_ok (t := t) (a := 0) (D := q_D0) (told := false) (Nat.zero_le _) q_pok_0
  obtain ⟨I3, g1, g2, g3⟩ := x_clause (n := n) (J := J) (T := T) hn ht (Nat.zero_le _) hX q_pok_0 hT
  unfold f_X3_read
  rw [hbegin, Option.bind_some, g1, Option.bind_some]
  unfold q_rd
  cases hq : q_clz t 0 q_D0 false with
  | inl f =>
    rw [hq] at g3
    have hfl := k1 f hq
    have h39 := x_read39_f (n := n) (J := J) (T := T) hn (show f < 2 ^ 30 by omega) g3
    have hne : I3 1 3 ≠ -1 := by rw [g3.2.1]; exact q_nIm1 (by omega)
    obtain ⟨k', hk'⟩ : ∃ z, n = z + 1 := ⟨n - 1, by omega⟩
    have hend : f_X3_read_10 n n I3 J T 0 = some (nI f, I3) := by
      have e1 : f_X3_read_10 n n I3 J T 0 = f_X3_read_10 n (k' + 1) I3 J T 0 := by rw [← hk']
      have htf : f_X10_takes n I3 J T 59 = some (0, I3) := x_takes_f (p := 59) (by omega) hne
      rw [e1, f_X3_read_10, if_neg (show ¬ (160 : Int32) ≤ 0 by decide), htf, Option.bind_some]
      rw [if_pos rfl, h39]
    rw [hend]
    exact ⟨_, I3, rfl, fun x y h1 h2 => by rw [g2 x y h1 h2]; exact hfr x y h1 h2, g3.1, rfl, hfl⟩
  | inr s =>
    rw [hq] at g3
    obtain ⟨g31, g32⟩ := g3
    obtain ⟨s1, s2, s3⟩ := k2 s hq
    obtain ⟨v, I', f1, f2, f3, f4⟩ := x_rl (n := n) (J := J) (T := T) hn ht n 200 0 s.1 s.2.1 s.2.2 I3 s2 (by omega) (by omega) (by omega) g31 s3 g32
    exact ⟨v, I', f1, fun x y h1 h2 => by rw [f2 x y h1 h2, g2 x y h1 h2]; exact hfr x y h1 h2, f3, f4⟩
end QW
