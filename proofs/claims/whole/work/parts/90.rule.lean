/-! ===== a rule's text: what it tells, as steps and as a value ===== -/
abbrev q_Vl : Type := (Nat → Int32) → Int32
abbrev q_Rs : Type := Nat ⊕ (Nat × List Int32 × q_Vl)
def q_rb (x : q_Rs) (f : Nat × List Int32 × q_Vl → q_Rs) : q_Rs := match x with
  | .inl e => .inl e
  | .inr r => f r
def q_wi (z : Int64) : Int32 := (am_maxL (-1000000) (am_minL 1000000 z)).toInt32
/-- what a sign between two makes of them -/
def q_op (p : Nat) (x y : Int32) : Int32 :=
  if p = 43 then q_wi (x.toInt64 + y.toInt64)
  else if p = 45 then q_wi (x.toInt64 - y.toInt64)
  else if p = 42 then q_wi (x.toInt64 * y.toInt64)
  else if p = 47 then (if y = 0 then 0 else q_wi (x.toInt64 / y.toInt64))
  else if p = 61 then (if x = y then 1 else 0)
  else if p = 60 then (if x < y then 1 else 0)
  else if p = 62 then (if y < x then 1 else 0)
  else if p = 38 then (if x = 0 then 0 else if y = 0 then 0 else 1)
  else (if x = 0 then (if y = 0 then 0 else 1) else 1)
def q_bl (t : q_Tx) (op : Nat → Bool) (X : Nat → q_Rs) : Nat → (Nat × List Int32 × q_Vl) → q_Rs
  | 0, r => .inr r
  | m + 1, r =>
    if op (q_pk t (q_sk t r.1)) = true then q_rb (X (q_sk t r.1 + 1)) (fun z => q_bl t op X m (z.1, r.2.1 ++ (z.2.1 ++ [10000 + nI (q_pk t (q_sk t r.1))]), fun E => q_op (q_pk t (q_sk t r.1)) (r.2.2 E) (z.2.2 E)))
    else .inr (q_sk t r.1, r.2.1, r.2.2)
def q_ltr (p : Nat) : Bool := decide (p = 109) || (decide (p = 115) || (decide (p = 119) || (decide (p = 110) || (decide (p = 112) || decide (p = 107)))))
def q_oT (p : Nat) : Bool := decide (p = 42) || decide (p = 47)
def q_oS (p : Nat) : Bool := decide (p = 43) || decide (p = 45)
def q_oA (p : Nat) : Bool := decide (p = 38)
def q_oO (p : Nat) : Bool := decide (p = 124)
def q_oC (p : Nat) : Bool := decide (p = 61) || (decide (p = 60) || decide (p = 62))
/-- a sign that must come -/
def q_xp (t : q_Tx) (x : Nat) (r : Nat × List Int32 × q_Vl) : q_Rs := if q_pk t (q_sk t r.1) = x then .inr (q_sk t r.1 + 1, r.2.1, r.2.2) else .inl (q_sk t r.1)
/-- sub: a sum one deeper; q: how many may still be opened -/
def q_atm (t : q_Tx) (sub : Nat → q_Rs) (q a : Nat) : q_Rs :=
  if q_dig t (q_sk t a) = true then (if q_dig t (q_dl t 4 (q_sk t a) 0).1 = true then .inl (q_dl t 4 (q_sk t a) 0).1 else .inr ((q_dl t 4 (q_sk t a) 0).1, [nI (q_dl t 4 (q_sk t a) 0).2], fun _ => nI (q_dl t 4 (q_sk t a) 0).2))
  else if q_ltr (q_pk t (q_sk t a)) = true then .inr (q_sk t a + 1, [10000 + nI (q_pk t (q_sk t a))], fun E => E (q_pk t (q_sk t a)))
  else if q_pk t (q_sk t a) = 91 ∧ 0 < q then q_rb (sub (q_sk t a + 1)) (q_xp t 93)
  else .inl (q_sk t a)
def q_trm (t : q_Tx) (sub : Nat → q_Rs) (q a : Nat) : q_Rs := q_rb (q_atm t sub q a) (q_bl t q_oT (q_atm t sub q) (t.1 + 1))
def q_smF (t : q_Tx) (sub : Nat → q_Rs) (q a : Nat) : q_Rs := q_rb (q_trm t sub q a) (q_bl t q_oS (q_trm t sub q) (t.1 + 1))
def q_sum (t : q_Tx) : Nat → Nat → q_Rs
  | 0 => q_smF t (fun _ => .inl 0) 0
  | q + 1 => q_smF t (q_sum t q) (q + 1)
/-- one sum compared with another -/
def q_cmp (t : q_Tx) (q : Nat) (r : Nat × List Int32 × q_Vl) : q_Rs :=
  if q_oC (q_pk t (q_sk t r.1)) = true then q_rb (q_sum t q (q_sk t r.1 + 1)) (fun z => .inr (z.1, r.2.1 ++ (z.2.1 ++ [10000 + nI (q_pk t (q_sk t r.1))]), fun E => q_op (q_pk t (q_sk t r.1)) (r.2.2 E) (z.2.2 E)))
  else .inl (q_sk t r.1)
def q_unF (t : q_Tx) (subU subC : Nat → q_Rs) (q a : Nat) : q_Rs :=
  if q_pk t (q_sk t a) = 33 then (if 0 < q then q_rb (subU (q_sk t a + 1)) (fun z => .inr (z.1, z.2.1 ++ [10033], fun E => 1 - z.2.2 E)) else .inl (q_sk t a))
  else if q_pk t (q_sk t a) = 40 then (if 0 < q then q_rb (subC (q_sk t a + 1)) (q_xp t 41) else .inl (q_sk t a))
  else q_rb (q_sum t q a) (q_cmp t q)
def q_andz (t : q_Tx) (U : Nat → q_Rs) (x : q_Rs) : q_Rs := q_rb x (q_bl t q_oA U (t.1 + 1))
def q_ors (t : q_Tx) (U : Nat → q_Rs) (x : q_Rs) : q_Rs := q_rb (q_andz t U x) (q_bl t q_oO (fun a => q_andz t U (U a)) (t.1 + 1))
def q_unt (t : q_Tx) : Nat → Nat → q_Rs
  | 0 => q_unF t (fun _ => .inl 0) (fun _ => .inl 0) 0
  | q + 1 => q_unF t (q_unt t q) (fun a => q_ors t (q_unt t q) (q_unt t q a)) (q + 1)
def q_cnd (t : q_Tx) (q a : Nat) : q_Rs := q_ors t (q_unt t q) (q_unt t q a)
/-- every step stands for a sign at least -/
def q_rok (t : q_Tx) (a : Nat) (x : q_Rs) : Prop := (∀ f, x = .inl f → f ≤ t.1) ∧ ∀ r, x = .inr r → a < r.1 ∧ r.1 ≤ t.1 ∧ a + r.2.1.length ≤ r.1
theorem q_rok.b {t : q_Tx} {a : Nat} {x : q_Rs} {f : Nat × List Int32 × q_Vl → q_Rs} (h : q_rok t a x) (hf : ∀ r, a < r.1 → r.1 ≤ t.1 → a + r.2.1.length ≤ r.1 → q_rok t a (f r)) : q_rok t a (q_rb x f) := by
  cases x with
  | inl e => exact ⟨fun g z => (by cases z; exact h.1 _ rfl), fun r z => (by cases z)⟩
  | inr r =>
    obtain ⟨h1, h2, h3⟩ := h.2 r rfl
    exact hf r h1 h2 h3
theorem q_bl_ok {t : q_Tx} {op : Nat → Bool} {X : Nat → q_Rs} (h0 : op 0 = false) (hX : ∀ b, b ≤ t.1 → q_rok t b (X b)) {a : Nat} : ∀ (m : Nat) (r : Nat × List Int32 × q_Vl), a < r.1 → r.1 ≤ t.1 → a + r.2.1.length ≤ r.1 → q_rok t a (q_bl t op X m r) := by
  intro m
  induction m with
  | zero => intro r h1 h2 h3; exact ⟨fun f z => (by cases z), fun r' z => (by cases z; exact ⟨h1, h2, h3⟩)⟩
  | succ m ih =>
    intro r h1 h2 h3
    have hs := q_sk_le h2
    unfold q_bl
    by_cases c : op (q_pk t (q_sk t r.1)) = true
    · have hlt := q_pk_in (t := t) (a := q_sk t r.1) (fun z => by rw [z, h0] at c; cases c)
      rw [if_pos c]
      cases hx : X (q_sk t r.1 + 1) with
      | inl e => exact ⟨fun g z => (by cases z; exact (hX _ hlt).1 _ hx), fun r z => (by cases z)⟩
      | inr z =>
        obtain ⟨k1, k2, k3⟩ := (hX _ hlt).2 z hx
        refine ih _ (by show a < z.1; omega) k2 ?_
        show a + (r.2.1 ++ (z.2.1 ++ [_])).length ≤ z.1
        rw [List.length_append, List.length_append, List.length_singleton]
        omega
    · rw [if_neg c]
      exact ⟨fun f z => (by cases z), fun r' z => (by cases z; exact ⟨by show a < q_sk t r.1; omega, hs.2, by show a + r.2.1.length ≤ q_sk t r.1; omega⟩)⟩
theorem q_xp_ok {t : q_Tx} {a x : Nat} (hx : x ≠ 0) {r : Nat × List Int32 × q_Vl} (h1 : a < r.1) (h2 : r.1 ≤ t.1) (h3 : a + r.2.1.length ≤ r.1) : q_rok t a (q_xp t x r) := by
  have hs := q_sk_le h2
  unfold q_xp
  by_cases c : q_pk t (q_sk t r.1) = x
  · have hlt := q_pk_in (t := t) (a := q_sk t r.1) (by rw [c]; exact hx)
    rw [if_pos c]
    exact ⟨fun f z => (by cases z), fun r' z => (by cases z; exact ⟨by show a < q_sk t r.1 + 1; omega, hlt, by show a + r.2.1.length ≤ q_sk t r.1 + 1; omega⟩)⟩
  · rw [if_neg c]
    exact ⟨fun f z => (by cases z; exact hs.2), fun r' z => (by cases z)⟩
theorem q_rok.le {t : q_Tx} {a b : Nat} {x : q_Rs} (h : q_rok t b x) (hab : a ≤ b) : q_rok t a x := ⟨h.1, fun r z => by obtain ⟨h1, h2, h3⟩ := h.2 r z; exact ⟨by omega, h2, by omega⟩⟩
theorem q_atm_ok {t : q_Tx} {sub : Nat → q_Rs} {q a : Nat} (ha : a ≤ t.1) (hsub : 0 < q → ∀ b, b ≤ t.1 → q_rok t b (sub b)) : q_rok t a (q_atm t sub q a) := by
  have hs := q_sk_le ha
  unfold q_atm
  by_cases c1 : q_dig t (q_sk t a) = true
  · obtain ⟨g1, g2, g3, g4⟩ := q_dig_pk c1
    have hl := q_dl_le (t := t) 4 (q_sk t a) 0 hs.2
    have hgt : q_sk t a < (q_dl t 4 (q_sk t a) 0).1 := by
      have e : q_dl t 4 (q_sk t a) 0 = q_dl t 3 (q_sk t a + 1) (0 * 10 + (t.2 (q_sk t a) - 48)) := by
        show (if q_dig t (q_sk t a) = true then _ else _) = _
        rw [if_pos c1]
      rw [e]
      have := (q_dl_le (t := t) 3 (q_sk t a + 1) (0 * 10 + (t.2 (q_sk t a) - 48)) g1).1
      omega
    rw [if_pos c1]
    by_cases c2 : q_dig t (q_dl t 4 (q_sk t a) 0).1 = true
    · rw [if_pos c2]
      exact ⟨fun f z => (by cases z; exact hl.2.1), fun r' z => (by cases z)⟩
    · rw [if_neg c2]
      exact ⟨fun f z => (by cases z), fun r' z => (by cases z; exact ⟨by show a < _; omega, hl.2.1, by show a + 1 ≤ (q_dl t 4 (q_sk t a) 0).1; omega⟩)⟩
  · rw [if_neg c1]
    by_cases c2 : q_ltr (q_pk t (q_sk t a)) = true
    · have hlt := q_pk_in (t := t) (a := q_sk t a) (fun z => by rw [z] at c2; cases c2)
      rw [if_pos c2]
      exact ⟨fun f z => (by cases z), fun r' z => (by cases z; exact ⟨by show a < q_sk t a + 1; omega, hlt, by show a + 1 ≤ q_sk t a + 1; omega⟩)⟩
    · rw [if_neg c2]
      by_cases c3 : q_pk t (q_sk t a) = 91 ∧ 0 < q
      · have hlt := q_pk_in (t := t) (a := q_sk t a) (by rw [c3.1]; decide)
        rw [if_pos c3]
        exact ((hsub c3.2 _ hlt).le (show a ≤ q_sk t a + 1 by omega)).b (fun r h1 h2 h3 => q_xp_ok (by decide) h1 h2 h3)
      · rw [if_neg c3]
        exact ⟨fun f z => (by cases z; exact hs.2), fun r' z => (by cases z)⟩
theorem q_smF_ok {t : q_Tx} {sub : Nat → q_Rs} {q a : Nat} (ha : a ≤ t.1) (hsub : 0 < q → ∀ b, b ≤ t.1 → q_rok t b (sub b)) : q_rok t a (q_trm t sub q a) ∧ q_rok t a (q_smF t sub q a) := by
  have hA : ∀ b, b ≤ t.1 → q_rok t b (q_atm t sub q b) := fun b hb => q_atm_ok hb hsub
  have hT : ∀ b, b ≤ t.1 → q_rok t b (q_trm t sub q b) := fun b hb => (hA b hb).b (fun r h1 h2 h3 => q_bl_ok rfl hA _ r h1 h2 h3)
  exact ⟨hT a ha, (hT a ha).b (fun r h1 h2 h3 => q_bl_ok rfl hT _ r h1 h2 h3)⟩
theorem q_sum_ok {t : q_Tx} : ∀ (q a : Nat), a ≤ t.1 → q_rok t a (q_sum t q a) := by
  intro q
  induction q with
  | zero => intro a ha; exact (q_smF_ok ha (fun h => absurd h (Nat.lt_irrefl _))).2
  | succ q ih => intro a ha; exact (q_smF_ok ha (fun _ => ih)).2
theorem q_cmp_ok {t : q_Tx} {q a : Nat} {r : Nat × List Int32 × q_Vl} (h1 : a < r.1) (h2 : r.1 ≤ t.1) (h3 : a + r.2.1.length ≤ r.1) : q_rok t a (q_cmp t q r) := by
  have hs := q_sk_le h2
  unfold q_cmp
  by_cases c : q_oC (q_pk t (q_sk t r.1)) = true
  · have hlt := q_pk_in (t := t) (a := q_sk t r.1) (fun z => by rw [z] at c; cases c)
    rw [if_pos c]
    cases hx : q_sum t q (q_sk t r.1 + 1) with
    | inl e => exact ⟨fun g z => (by cases z; exact (q_sum_ok q _ hlt).1 _ hx), fun r z => (by cases z)⟩
    | inr z =>
      obtain ⟨k1, k2, k3⟩ := (q_sum_ok q _ hlt).2 z hx
      refine ⟨fun f w => (by cases w), fun r' w => ?_⟩
      cases w
      refine ⟨by show a < z.1; omega, k2, ?_⟩
      show a + (r.2.1 ++ (z.2.1 ++ [_])).length ≤ z.1
      rw [List.length_append, List.length_append, List.length_singleton]
      omega
  · rw [if_neg c]
    exact ⟨fun f z => (by cases z; exact hs.2), fun r' z => (by cases z)⟩
theorem q_unF_ok {t : q_Tx} {subU subC : Nat → q_Rs} {q a : Nat} (ha : a ≤ t.1) (hU : 0 < q → ∀ b, b ≤ t.1 → q_rok t b (subU b)) (hC : 0 < q → ∀ b, b ≤ t.1 → q_rok t b (subC b)) : q_rok t a (q_unF t subU subC q a) := by
  have hs := q_sk_le ha
  unfold q_unF
  by_cases c1 : q_pk t (q_sk t a) = 33
  · have hlt := q_pk_in (t := t) (a := q_sk t a) (by rw [c1]; decide)
    rw [if_pos c1]
    by_cases c2 : 0 < q
    · rw [if_pos c2]
      have hb := hU c2 _ hlt
      cases hx : subU (q_sk t a + 1) with
      | inl e => exact ⟨fun g z => (by cases z; exact hb.1 _ hx), fun r z => (by cases z)⟩
      | inr z =>
        obtain ⟨k1, k2, k3⟩ := hb.2 z hx
        refine ⟨fun f w => (by cases w), fun r' w => ?_⟩
        cases w
        refine ⟨by show a < z.1; omega, k2, ?_⟩
        show a + (z.2.1 ++ [_]).length ≤ z.1
        rw [List.length_append, List.length_singleton]
        omega
    · rw [if_neg c2]
      exact ⟨fun f z => (by cases z; exact hs.2), fun r' z => (by cases z)⟩
  · rw [if_neg c1]
    by_cases c2 : q_pk t (q_sk t a) = 40
    · have hlt := q_pk_in (t := t) (a := q_sk t a) (by rw [c2]; decide)
      rw [if_pos c2]
      by_cases c3 : 0 < q
      · rw [if_pos c3]
        exact ((hC c3 _ hlt).le (show a ≤ q_sk t a + 1 by omega)).b (fun r h1 h2 h3 => q_xp_ok (by decide) h1 h2 h3)
      · rw [if_neg c3]
        exact ⟨fun f z => (by cases z; exact hs.2), fun r' z => (by cases z)⟩
    · rw [if_neg c2]
      exact (q_sum_ok q a ha).b (fun r h1 h2 h3 => q_cmp_ok h1 h2 h3)
theorem q_ors_ok {t : q_Tx} {U : Nat → q_Rs} (hU : ∀ b, b ≤ t.1 → q_rok t b (U b)) {a : Nat} {x : q_Rs} (hx : q_rok t a x) : q_rok t a (q_andz t U x) ∧ q_rok t a (q_ors t U x) := by
  have hA : ∀ (b : Nat) (x : q_Rs), q_rok t b x → q_rok t b (q_andz t U x) := fun b x h => h.b (fun r h1 h2 h3 => q_bl_ok rfl hU _ r h1 h2 h3)
  exact ⟨hA a x hx, (hA a x hx).b (fun r h1 h2 h3 => q_bl_ok rfl (fun b hb => hA b _ (hU b hb)) _ r h1 h2 h3)⟩
theorem q_unt_ok {t : q_Tx} : ∀ (q a : Nat), a ≤ t.1 → q_rok t a (q_unt t q a) := by
  intro q
  induction q with
  | zero => intro a ha; exact q_unF_ok ha (fun h => absurd h (Nat.lt_irrefl _)) (fun h => absurd h (Nat.lt_irrefl _))
  | succ q ih => intro a ha; exact q_unF_ok ha (fun _ => ih) (fun _ b hb => (q_ors_ok ih (ih b hb)).2)
theorem q_cnd_ok {t : q_Tx} (q a : Nat) (ha : a ≤ t.1) : q_rok t a (q_cnd t q a) := (q_ors_ok (q_unt_ok q) (q_unt_ok q a ha)).2
