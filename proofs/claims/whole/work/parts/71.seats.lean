/-! ===== all ways to put all in coaches; the class's walk over them ===== -/
def q_gl {α : Type} (b : Nat → Bool) (F : Nat → α → α) : Nat → Nat → α → α
  | 0, _, st => st
  | g + 1, r, st => q_gl b F g (r + 1) (if b r = true then F r st else st)
/-- who of the first r is in coach j -/
def q_cst (c : Nat → Nat) (j : Nat) : Nat → Nat
  | 0 => 0
  | r + 1 => if c r = j then q_cst c j r ||| 2 ^ r else q_cst c j r
def q_sts (D : q_Rd) (S : Nat) : Nat → Nat
  | 0 => 0
  | i + 1 => q_sts D S i + (if S.testBit i = true then q_se D i else 0)
def q_dgt (c : Nat → Nat) : Nat → Nat
  | 0 => 0
  | r + 1 => q_dgt c r * 10 + c r
def q_room (D : q_Rd) (S r : Nat) : Bool := decide (q_sts D S (q_R D) + q_se D r ≤ q_cs D)
def q_en {α : Type} (D : q_Rd) (leaf : (Nat → Nat) → Nat → α → α) : Nat → Nat → (Nat → Nat) → Nat → α → α
  | 0, _, c, u, st => leaf c u st
  | f + 1, r, c, u, st => q_gl (fun j => q_room D (q_cst c j r) r) (fun j st => q_en D leaf f (r + 1) (q_tu c r j) (if j = u then u + 1 else u) st) (u + 1) 0 st
theorem q_cst_bit (c : Nat → Nat) (j i : Nat) : ∀ r, (q_cst c j r).testBit i = true ↔ (i < r ∧ c i = j) := by
  intro r
  induction r with
  | zero =>
    unfold q_cst
    rw [Nat.zero_testBit]
    exact ⟨fun h => (by cases h), fun h => absurd h.1 (Nat.not_lt_zero _)⟩
  | succ r ih =>
    unfold q_cst
    by_cases h : c r = j
    · rw [if_pos h, Nat.testBit_or, Nat.testBit_two_pow, Bool.or_eq_true, ih, decide_eq_true_eq]
      constructor
      · rintro (z | z)
        · exact ⟨by omega, z.2⟩
        · subst z; exact ⟨Nat.lt_succ_self _, h⟩
      · intro z
        by_cases e : r = i
        · exact Or.inr e
        · exact Or.inl ⟨by omega, z.2⟩
    · rw [if_neg h, ih]
      constructor
      · intro z; exact ⟨by omega, z.2⟩
      · intro z
        refine ⟨?_, z.2⟩
        by_cases e : r = i
        · subst e; exact absurd z.2 h
        · omega
theorem q_cst_lt (c : Nat → Nat) (j : Nat) : ∀ r, q_cst c j r < 2 ^ r := by
  intro r
  induction r with
  | zero => exact Nat.one_pos
  | succ r ih =>
    have h1 : 2 ^ r < 2 ^ (r + 1) := Nat.pow_lt_pow_right (by omega) (by omega)
    unfold q_cst
    split
    · exact Nat.or_lt_two_pow (by omega) h1
    · omega
theorem q_cst_congr {c c' : Nat → Nat} (j : Nat) : ∀ r, (∀ i, i < r → c i = c' i) → q_cst c j r = q_cst c' j r := by
  intro r
  induction r with
  | zero => intro _; rfl
  | succ r ih =>
    intro h
    unfold q_cst
    rw [ih (fun i hi => h i (by omega)), h r (by omega)]
theorem q_cst_tu (c : Nat → Nat) (r j k : Nat) : q_cst (q_tu c r j) k (r + 1) = if j = k then q_cst c k r ||| 2 ^ r else q_cst c k r := by
  have h : q_cst (q_tu c r j) k r = q_cst c k r := q_cst_congr k r (fun i hi => by unfold q_tu; rw [if_neg (by omega)])
  have h2 : q_tu c r j r = j := by unfold q_tu; rw [if_pos rfl]
  show (if q_tu c r j r = k then q_cst (q_tu c r j) k r ||| 2 ^ r else q_cst (q_tu c r j) k r) = _
  rw [h, h2]
theorem q_dgt_congr {c c' : Nat → Nat} : ∀ r, (∀ i, i < r → c i = c' i) → q_dgt c r = q_dgt c' r := by
  intro r
  induction r with
  | zero => intro _; rfl
  | succ r ih =>
    intro h
    unfold q_dgt
    rw [ih (fun i hi => h i (by omega)), h r (by omega)]
theorem q_dgt_tu (c : Nat → Nat) (r j : Nat) : q_dgt (q_tu c r j) (r + 1) = q_dgt c r * 10 + j := by
  have h : q_dgt (q_tu c r j) r = q_dgt c r := q_dgt_congr r (fun i hi => by unfold q_tu; rw [if_neg (by omega)])
  have h2 : q_tu c r j r = j := by unfold q_tu; rw [if_pos rfl]
  show q_dgt (q_tu c r j) r * 10 + q_tu c r j r = _
  rw [h, h2]
theorem q_dgt_lt {c : Nat → Nat} : ∀ r, (∀ i, i < r → c i < 10) → q_dgt c r < 10 ^ r := by
  intro r
  induction r with
  | zero => intro _; exact Nat.one_pos
  | succ r ih =>
    intro h
    have h1 := ih (fun i hi => h i (by omega))
    have h2 := h r (by omega)
    unfold q_dgt
    rw [Nat.pow_succ]
    omega
theorem q_sts_le {D : q_Rd} (hD : q_ok D) (S : Nat) : ∀ i, i ≤ q_R D → q_sts D S i ≤ 3 * i := by
  intro i
  induction i with
  | zero => intro _; exact Nat.le_refl _
  | succ i ih =>
    intro h
    have h1 := ih (by omega)
    have h2 := (hD.2.2 i (by omega)).2.2.2.2
    unfold q_sts
    split <;> omega
theorem q_sts_or (D : q_Rd) {S r : Nat} (hb : ¬ S.testBit r = true) : ∀ i, q_sts D (S ||| 2 ^ r) i = q_sts D S i + (if r < i then q_se D r else 0) := by
  intro i
  induction i with
  | zero => rfl
  | succ i ih =>
    have k1 : (if (S ||| 2 ^ r).testBit i = true then q_se D i else 0) = (if S.testBit i = true then q_se D i else 0) + (if r = i then q_se D r else 0) := by
      rw [Nat.testBit_or, Nat.testBit_two_pow]
      by_cases e : r = i
      · subst e
        rw [if_neg hb, decide_eq_true rfl, Bool.or_true, if_pos rfl, if_pos rfl, Nat.zero_add]
      · rw [decide_eq_false e, Bool.or_false, if_neg e, Nat.add_zero]
    have k2 : (if r < i + 1 then q_se D r else 0) = (if r < i then q_se D r else 0) + (if r = i then q_se D r else 0) := by
      rcases Nat.lt_trichotomy r i with h | h | h
      · rw [if_pos h, if_pos (show r < i + 1 by omega), if_neg (show ¬ r = i by omega), Nat.add_zero]
      · subst h
        rw [if_neg (Nat.lt_irrefl _), if_pos (Nat.lt_succ_self _), if_pos rfl, Nat.zero_add]
      · rw [if_neg (show ¬ r < i by omega), if_neg (show ¬ r < i + 1 by omega), if_neg (show ¬ r = i by omega)]
    show q_sts D (S ||| 2 ^ r) i + _ = (q_sts D S i + _) + _
    rw [ih, k1, k2]
    omega
theorem q_orm_f : ∀ S, S < 64 → ∀ r, r < 6 → (S.testBit r || decide ((S ||| 2 ^ r) &&& (63 ^^^ 2 ^ r) = S)) = true := by decide +kernel
theorem q_orm {S r : Nat} (hS : S < 64) (hr : r < 6) (hb : ¬ S.testBit r = true) : (S ||| 2 ^ r) &&& (63 ^^^ 2 ^ r) = S := by
  have h := q_orm_f S hS r hr
  rw [Bool.or_eq_true, decide_eq_true_eq] at h
  exact h.resolve_left hb
theorem q_cst_nb (c : Nat → Nat) (j r : Nat) : ¬ (q_cst c j r).testBit r = true := fun z => absurd ((q_cst_bit c j r r).mp z).1 (Nat.lt_irrefl _)
def q_CX (I : Nat → Nat → Int32) (D : q_Rd) (c : Nat → Nat) (r : Nat) : Prop := ∀ j, j < 7 → I 32 j = nI (q_cst c j r) ∧ I 33 j = nI (q_sts D (q_cst c j r) (q_R D))
section QW
variable {n : Nat} {D : q_Rd} {J : Nat → Nat → Int64} {T : Nat}
theorem x_hasRoom {I : Nat → Nat → Int32} (hD : q_ok D) (hx : q_RX I D) {S j r : Nat} (hj : j < 7) (hr : r < q_R D) (h33 : I 33 j = nI (q_sts D S (q_R D))) : f_X6_hasRoom n I J T (nI j) (nI r) = some (if q_room D S r = true then 1 else 0) := by
  have hR := hD.1.2.1
  have hcs := hD.1.2.2.1
  have hix : ok_ix (nI j) 7 := q_ix (by omega) (by omega)
  have hix2 : ok_ix (nI r) 6 := q_ix (by omega) (by omega)
  have hcl : (nI j).toNatClampNeg = j := q_cl (by omega)
  have hcl2 : (nI r).toNatClampNeg = r := q_cl (by omega)
  have hs := q_sts_le hD S (q_R D) (Nat.le_refl _)
  have hse := (hD.2.2 r hr).2.2.2.2
  unfold f_X6_hasRoom q_room
  simp only [if_pos hix, if_pos hix2, hcl, hcl2, h33, (hx.2.2 r hr).2.2, hx.1.2.2.1]
  rw [nI_add]
  by_cases h : q_sts D S (q_R D) + q_se D r ≤ q_cs D
  · rw [if_neg (nI_nlt h (by omega)), decide_eq_true h, if_pos rfl]
  · rw [if_pos (nI_lt (by omega) (by omega)), decide_eq_false h, if_neg (by decide)]
theorem x_seatw {α : Type} (hn : 300 ≤ n) (hD : q_ok D) (leaf : (Nat → Nat) → Nat → α → α) (P : α → Int32 → Int32 → Int32 → Int32 → Prop) (Z : (Nat → Nat → Int32) → Prop) (hZ : ∀ I I', Z I → (∀ a b, a ≠ 32 → a ≠ 33 → ¬ (a = 31 ∧ 8 ≤ b) → I' a b = I a b) → Z I') (hleaf : ∀ (c : Nat → Nat) (u : Nat) (I : Nat → Nat → Int32) (st : α), u ≤ q_R D → (∀ i, i < q_R D → c i < u) → q_RX I D → q_CX I D c (q_R D) → Z I → P st (I 31 8) (I 31 9) (I 31 10) (I 31 11) → ∃ I', f_X6_judge n I J T (nI u) (nI (q_dgt c (q_R D))) = some I' ∧ P (leaf c u st) (I' 31 8) (I' 31 9) (I' 31 10) (I' 31 11) ∧ ∀ a b, ¬ (a = 31 ∧ 8 ≤ b) → I' a b = I a b) : ∀ (f m r : Nat) (c : Nat → Nat) (u : Nat) (I : Nat → Nat → Int32) (st : α), r + f = q_R D → f < m → u ≤ r → (∀ i, i < r → c i < u) → q_RX I D → q_CX I D c r → Z I → P st (I 31 8) (I 31 9) (I 31 10) (I 31 11) → ∃ I', fx_X6_seat n m I J T (nI r) (nI u) (nI (q_dgt c r)) = some I' ∧ P (q_en D leaf f r c u st) (I' 31 8) (I' 31 9) (I' 31 10) (I' 31 11) ∧ ∀ a b, ¬ (a = 31 ∧ 8 ≤ b) → I' a b = I a b := by
  have hR := hD.1.2.1
  intro f
  induction f with
  | zero =>
    intro m r c u I st h1 h2 h3 h4 hx hc hz hP
    obtain ⟨m, rfl⟩ : ∃ z, m = z + 1 := ⟨m - 1, by omega⟩
    have e : r = q_R D := by omega
    subst e
    unfold fx_X6_seat fb_X6_seat
    rw [hx.1.2.1, if_neg (nI_nlt (Nat.le_refl _) (by omega))]
    obtain ⟨I', f1, f2, f3⟩ := hleaf c u I st h3 h4 hx hc hz hP
    rw [f1, Option.bind_some]
    exact ⟨I', rfl, f2, f3⟩
  | succ f ih =>
    intro m r c u I st h1 h2 h3 h4 hx hc hz hP
    obtain ⟨m, rfl⟩ : ∃ z, m = z + 1 := ⟨m - 1, by omega⟩
    have loop : ∀ (k j : Nat) (I : Nat → Nat → Int32) (st : α), j ≤ u + 1 → u + 1 - j < k → q_RX I D → q_CX I D c r → Z I → P st (I 31 8) (I 31 9) (I 31 10) (I 31 11) → ∃ I', f_X6_seat_21 n (fx_X6_seat n m) k I J T (nI r) (nI u) (nI (q_dgt c r)) (nI j) = some I' ∧ P (q_gl (fun j => q_room D (q_cst c j r) r) (fun j st => q_en D leaf f (r + 1) (q_tu c r j) (if j = u then u + 1 else u) st) (u + 1 - j) j st) (I' 31 8) (I' 31 9) (I' 31 10) (I' 31 11) ∧ ∀ a b, ¬ (a = 31 ∧ 8 ≤ b) → I' a b = I a b := by
      intro k
      induction k with
      | zero => intro j I st _ h; omega
      | succ k ihk =>
        intro j I st hj hk hx hc hz hP
        rw [f_X6_seat_21]
        by_cases e : j = u + 1
        · subst e
          rw [if_pos (nI_lt (by omega) (by omega)), Nat.sub_self]
          exact ⟨I, rfl, hP, fun _ _ _ => rfl⟩
        · obtain ⟨g, hg⟩ : ∃ g, u + 1 - j = g + 1 := ⟨u + 1 - j - 1, by omega⟩
          have hg' : u + 1 - (j + 1) = g := by omega
          have hrR : r < q_R D := by omega
          rw [if_neg (nI_nlt (by omega) (by omega)), x_hasRoom hD hx (by omega) hrR (hc j (by omega)).2, Option.bind_some, hg]
          unfold f_X6_seat_130 q_gl
          rw [nI_1]
          by_cases hb : q_room D (q_cst c j r) r = true
          · have hix : ok_ix (nI j) 7 := q_ix (by omega) (by omega)
            have hcl : (nI j).toNatClampNeg = j := q_cl (by omega)
            have hix2 : ok_ix (nI r) 6 := q_ix (by omega) (by omega)
            have hcl2 : (nI r).toNatClampNeg = r := q_cl (by omega)
            obtain ⟨s1, s2⟩ := q_shl6 r (by omega)
            have hsl := q_cst_lt c j r
            have hs64 : 2 ^ r ≤ 2 ^ 6 := Nat.pow_le_pow_right (by omega) (by omega)
            have hnb := q_cst_nb c j r
            have hso := q_sts_or D hnb (q_R D)
            rw [if_pos hrR] at hso
            have hse := (hD.2.2 r hrR).2.2.2.2
            have hsl2 := q_sts_le hD (q_cst c j r) (q_R D) (Nat.le_refl _)
            obtain ⟨I1, hI1⟩ : ∃ z, z = am_u (am_u I 32 j (nI (q_cst c j r ||| 2 ^ r))) 33 j (nI (q_sts D (q_cst c j r) (q_R D) + q_se D r)) := ⟨_, rfl⟩
            have hI1f : ∀ a b, a ≠ 32 → a ≠ 33 → I1 a b = I a b := fun a b h h' => by
              rw [hI1]
              unfold am_u
              rw [if_neg (by omega), if_neg (by omega)]
            have hx1 : q_RX I1 D := hx.of3 (fun a b _ _ => hI1f a b (by omega) (by omega))
            have hc1 : q_CX I1 D (q_tu c r j) (r + 1) := fun i hi => by
              rw [q_cst_tu]
              by_cases ei : j = i
              · subst ei
                rw [if_pos rfl, hso, hI1]
                simp [am_u]
              · rw [if_neg ei]
                obtain ⟨z1, z2⟩ := hc i hi
                rw [← z1, ← z2, hI1]
                unfold am_u
                rw [if_neg (by omega), if_neg (by omega), if_neg (by omega), if_neg (by omega)]
                exact ⟨rfl, rfl⟩
            have hz1 : Z I1 := hZ I I1 hz (fun a b h h' _ => hI1f a b h h')
            have h4' : ∀ i, i < r + 1 → q_tu c r j i < (if j = u then u + 1 else u) := fun i hi => by
              unfold q_tu
              by_cases ei : i = r
              · rw [if_pos ei]; split <;> omega
              · rw [if_neg ei]
                have := h4 i (by omega)
                split <;> omega
            have hu' : (if j = u then u + 1 else u) ≤ r + 1 := by split <;> omega
            obtain ⟨I2, e1, e2, e3⟩ := ih m (r + 1) (q_tu c r j) (if j = u then u + 1 else u) I1 st (by omega) (by omega) hu' h4' hx1 hc1 hz1 (by rw [hI1f 31 8 (by omega) (by omega), hI1f 31 9 (by omega) (by omega), hI1f 31 10 (by omega) (by omega), hI1f 31 11 (by omega) (by omega)]; exact hP)
            rw [q_dgt_tu] at e1
            have ed : nI (q_dgt c r) * 10 + nI j = nI (q_dgt c r * 10 + j) := by
              rw [show nI (q_dgt c r) * 10 = nI (q_dgt c r * 10) from pk_mul _ 10, nI_add]
            obtain ⟨I3, hI3⟩ : ∃ z, z = am_u (am_u I2 32 j (nI (q_cst c j r))) 33 j (nI (q_sts D (q_cst c j r) (q_R D))) := ⟨_, rfl⟩
            have e32 : I2 32 j = nI (q_cst c j r ||| 2 ^ r) := by rw [e3 32 j (by omega), hI1]; simp [am_u]
            have e33 : I2 33 j = nI (q_sts D (q_cst c j r) (q_R D) + q_se D r) := by rw [e3 33 j (by omega), hI1]; simp [am_u]
            have e8 : I2 8 r = nI (q_se D r) := by rw [e3 8 r (by omega), hI1f 8 r (by omega) (by omega)]; exact (hx.2.2 r hrR).2.2
            have ea : nI (q_cst c j r ||| 2 ^ r) &&& ((1 <<< (nI r &&& 31)) ^^^ (-1)) = nI (q_cst c j r) := by
              rw [q_anr (Nat.or_lt_two_pow (n := 6) (by omega) (by omega)) (by omega), q_orm (by omega) (by omega) hnb]
            have hI3a : ∀ a b, ¬ (a = 31 ∧ 8 ≤ b) → I3 a b = I a b := fun a b h => by
              rw [hI3]
              by_cases h33 : a = 33 ∧ b = j
              · rw [h33.1, h33.2, (hc j (by omega)).2]
                simp [am_u]
              · by_cases h32 : a = 32 ∧ b = j
                · rw [h32.1, h32.2, (hc j (by omega)).1]
                  simp [am_u]
                · have z1 := e3 a b h
                  rw [hI1] at z1
                  unfold am_u at z1 ⊢
                  rw [if_neg h33, if_neg h32] at z1 ⊢
                  exact z1
            have h31 : ∀ b, I3 31 b = I2 31 b := fun b => by
              rw [hI3]
              unfold am_u
              rw [if_neg (by omega), if_neg (by omega)]
            have tail : ∀ s1 s2 : Int32, s1 = nI (r + 1) → s2 = nI (if j = u then u + 1 else u) → f_X6_seat_86 n (fx_X6_seat n m) (f_X6_seat_21 n (fx_X6_seat n m) k) I1 J T (nI r) (nI u) (nI (q_dgt c r)) (nI j) s1 s2 = f_X6_seat_21 n (fx_X6_seat n m) k I3 J T (nI r) (nI u) (nI (q_dgt c r)) (nI (j + 1)) := by
              intro t1 t2 h1 h2
              unfold f_X6_seat_86 f_X6_seat_130
              rw [h1, h2, ed, e1, Option.bind_some]
              simp only [if_pos hix, if_pos hix2, hcl, hcl2, e32, e33, e8]
              rw [ea, pk_sub (by omega), Nat.add_sub_cancel, ← hI3, nI_1]
            have hgoal : f_X6_seat_21 n (fx_X6_seat n m) k I3 J T (nI r) (nI u) (nI (q_dgt c r)) (nI (j + 1)) = f_X6_seat_21 n (fx_X6_seat n m) k I3 J T (nI r) (nI u) (nI (q_dgt c r)) (nI (j + 1)) := rfl
            rw [if_pos hb, if_neg (by exact q_10), if_pos hb]
            simp only [if_pos hix, if_pos hix2, hcl, hcl2, (hc j (by omega)).1, (hc j (by omega)).2, (hx.2.2 r hrR).2.2]
            rw [s1, q_or, nI_add, ← hI1]
            simp only [nI_1]
            obtain ⟨I', f1, f2, f3⟩ := ihk (j + 1) I3 _ (by omega) (by omega) (hx.of3 (fun a b _ _ => hI3a a b (by omega))) (fun i hi => by rw [hI3a 32 i (by omega), hI3a 33 i (by omega)]; exact hc i hi) (hZ I I3 hz (fun a b _ _ h => hI3a a b h)) (by rw [h31, h31, h31, h31]; exact e2)
            rw [hg'] at f2
            by_cases eu : j = u
            · rw [if_pos (show nI j = nI u by rw [eu]), tail (nI (r + 1)) (nI (u + 1)) rfl (by rw [if_pos eu]), f1]
              exact ⟨I', rfl, f2, fun a b h => by rw [f3 a b h]; exact hI3a a b h⟩
            · rw [if_neg (fun z => eu ((nI_eq (by omega) (by omega)).mp z)), tail (nI (r + 1)) (nI u) rfl (by rw [if_neg eu]), f1]
              exact ⟨I', rfl, f2, fun a b h => by rw [f3 a b h]; exact hI3a a b h⟩
          · rw [if_neg hb, if_pos rfl, if_neg hb]
            obtain ⟨I', f1, f2, f3⟩ := ihk (j + 1) I st (by omega) (by omega) hx hc hz hP
            rw [hg'] at f2
            exact ⟨I', f1, f2, f3⟩
    unfold fx_X6_seat fb_X6_seat
    rw [hx.1.2.1, if_pos (nI_lt (by omega) (by omega))]
    obtain ⟨I', f1, f2, f3⟩ := loop n 0 I st (Nat.zero_le _) (by omega) hx hc hz hP
    exact ⟨I', f1, f2, f3⟩
end QW
