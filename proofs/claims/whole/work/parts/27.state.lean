/-! ===== what both sides hold, as one state ===== -/
/-- nights, how many can be undone, what each has paid, what each paid in a night told by its number -/
abbrev q_Lg : Type := Nat × Nat × (Nat → Int64) × (Nat → Nat → Int64)
abbrev q_lN (L : q_Lg) : Nat := L.1
abbrev q_lU (L : q_Lg) : Nat := L.2.1
abbrev q_lP (L : q_Lg) : Nat → Int64 := L.2.2.1
abbrev q_lY (L : q_Lg) : Nat → Nat → Int64 := L.2.2.2
def q_LX (a b c : Nat) (I : Nat → Nat → Int32) (J : Nat → Nat → Int64) (R : Nat) (L : q_Lg) : Prop := I a 2 = nI (q_lN L) ∧ I a 3 = nI (q_lU L) ∧ (∀ r, r < R → J b r = q_lP L r) ∧ ∀ j, q_lN L ≤ j + q_lU L → j < q_lN L → ∀ r, r < R → J c (j % 40 * 6 + r) = q_lY L j r
def q_LM (x y b c : Nat) (I : Nat → Nat → Int32) (J : Nat → Nat → Int64) (R : Nat) (L : q_Lg) : Prop := I 53 x = nI (q_lN L) ∧ I 53 y = nI (q_lU L) ∧ (∀ r, r < R → J b r = q_lP L r) ∧ ∀ j, q_lN L ≤ j + q_lU L → j < q_lN L → ∀ r, r < R → J c (6 * (j + q_lU L - q_lN L) + r) = q_lY L j r
def q_lok (B : Nat) (L : q_Lg) : Prop := q_lU L ≤ 40 ∧ q_lU L ≤ q_lN L ∧ q_lN L ≤ B
/-- a byte as a cell holds it -/
def q_by (b : Nat) : Int32 := (nI b).toInt8.toInt32
/-- road; tape; rules (many, long, bytes); feet; seen (many, who, above, below); nights; an image is kept; its road; its nights -/
abbrev q_Sg : Type := q_Rd × (Nat × (Nat → Nat)) × (Nat × (Nat → Nat) × (Nat → Nat → Nat)) × Nat × (Nat × (Nat → Nat) × (Nat → Nat) × (Nat → Nat)) × q_Lg × Bool × q_Rd × q_Lg
abbrev q_sD (s : q_Sg) : q_Rd := s.1
abbrev q_sT (s : q_Sg) : Nat × (Nat → Nat) := s.2.1
abbrev q_sU (s : q_Sg) : Nat × (Nat → Nat) × (Nat → Nat → Nat) := s.2.2.1
abbrev q_sF (s : q_Sg) : Nat := s.2.2.2.1
abbrev q_sS (s : q_Sg) : Nat × (Nat → Nat) × (Nat → Nat) × (Nat → Nat) := s.2.2.2.2.1
abbrev q_sL (s : q_Sg) : q_Lg := s.2.2.2.2.2.1
abbrev q_sK (s : q_Sg) : Bool := s.2.2.2.2.2.2.1
abbrev q_sE (s : q_Sg) : q_Rd := s.2.2.2.2.2.2.2.1
abbrev q_sM (s : q_Sg) : q_Lg := s.2.2.2.2.2.2.2.2
def q_TX (I : Nat → Nat → Int32) (t : Nat × (Nat → Nat)) : Prop := I 1 1 = nI t.1 ∧ ∀ k, k < t.1 → I 2 k = q_by (t.2 k)
def q_TM (I : Nat → Nat → Int32) (t : Nat × (Nat → Nat)) : Prop := I 53 6 = nI t.1 ∧ ∀ k, k < t.1 → I 54 k = q_by (t.2 k)
def q_tok (t : Nat × (Nat → Nat)) : Prop := t.1 ≤ 160 ∧ ∀ k, k < t.1 → 1 ≤ t.2 k ∧ t.2 k < 256
def q_SX (I : Nat → Nat → Int32) (t : Nat × (Nat → Nat) × (Nat → Nat) × (Nat → Nat)) : Prop := I 37 5 = nI t.1 ∧ ∀ k, k < t.1 → I 38 k = nI (t.2.1 k) ∧ I 39 k = nI (t.2.2.1 k) ∧ I 40 k = nI (t.2.2.2 k)
def q_SM (I : Nat → Nat → Int32) (t : Nat × (Nat → Nat) × (Nat → Nat) × (Nat → Nat)) : Prop := I 53 48 = nI t.1 ∧ ∀ k, k < t.1 → I 71 k = nI (t.2.1 k) ∧ I 72 k = nI (t.2.2.1 k) ∧ I 73 k = nI (t.2.2.2 k)
def q_sek (R : Nat) (t : Nat × (Nat → Nat) × (Nat → Nat) × (Nat → Nat)) : Prop := t.1 ≤ 10 ∧ ∀ k, k < t.1 → t.2.1 k < R ∧ t.2.2.1 k ≤ 99999 ∧ 1 ≤ t.2.2.2 k ∧ t.2.2.2 k ≤ 999
def q_UM (I : Nat → Nat → Int32) (u : Nat × (Nat → Nat) × (Nat → Nat → Nat)) : Prop := I 53 7 = nI u.1 ∧ ∀ k, k < u.1 → I 56 k = nI (u.2.1 k) ∧ ∀ i, i < u.2.1 k → I 55 (160 * k + i) = q_by (u.2.2 k i)
def q_uok (u : Nat × (Nat → Nat) × (Nat → Nat → Nat)) : Prop := u.1 ≤ 4 ∧ ∀ k, k < u.1 → q_tok (u.2.1 k, u.2.2 k)
/-- another state of the same road, but for homes and miles -/
def q_like (D E : q_Rd) : Prop := D.1 = E.1 ∧ q_fr D = q_fr E ∧ q_wa D = q_wa E ∧ q_se D = q_se E
def q_dok (D : q_Rd) : Prop := q_ok D ∧ (q_R D = 0 ↔ q_W D = 0) ∧ (q_R D = 0 → q_cs D = 0 ∧ q_pr D = 0 ∧ q_ni D = 0)
def q_sok (B : Nat) (s : q_Sg) : Prop := q_dok (q_sD s) ∧ q_tok (q_sT s) ∧ q_uok (q_sU s) ∧ q_sF s ≤ 20 ∧ q_sek (q_R (q_sD s)) (q_sS s) ∧ q_lok B (q_sL s) ∧ (q_sK s = true → 0 < q_R (q_sD s) ∧ q_ok (q_sE s) ∧ q_like (q_sD s) (q_sE s) ∧ q_lok B (q_sM s))
/-! frames -/
theorem q_RM.of {I I' : Nat → Nat → Int32} {D : q_Rd} (h : q_RM I D) (e1 : I' 53 26 = I 53 26) (e2 : I' 53 27 = I 53 27) (e : ∀ a k, (a = 58 ∨ a = 59 ∨ a = 60 ∨ a = 61) → I' a k = I a k) : q_RM I' D := by
  obtain ⟨⟨a1, a2, a3, a4, a5⟩, b, c⟩ := h
  refine ⟨⟨by rw [e1]; exact a1, by rw [e2]; exact a2, by rw [e 61 _ (by omega)]; exact a3, by rw [e 61 _ (by omega)]; exact a4, by rw [e 61 _ (by omega)]; exact a5⟩, fun p x y => ⟨by rw [e 58 _ (by omega)]; exact (b p x y).1, by rw [e 59 _ (by omega)]; exact (b p x y).2⟩, fun r x => ⟨by rw [e 60 _ (by omega)]; exact (c r x).1, by rw [e 60 _ (by omega)]; exact (c r x).2.1, by rw [e 60 _ (by omega)]; exact (c r x).2.2⟩⟩
theorem q_LX.of {a b c : Nat} {I I' : Nat → Nat → Int32} {J J' : Nat → Nat → Int64} {R : Nat} {L : q_Lg} (h : q_LX a b c I J R L) (e1 : I' a 2 = I a 2) (e2 : I' a 3 = I a 3) (e3 : ∀ k, J' b k = J b k) (e4 : ∀ k, J' c k = J c k) : q_LX a b c I' J' R L :=
  ⟨by rw [e1]; exact h.1, by rw [e2]; exact h.2.1, fun r x => by rw [e3]; exact h.2.2.1 r x, fun j x y r z => by rw [e4]; exact h.2.2.2 j x y r z⟩
theorem q_LM.of {x y b c : Nat} {I I' : Nat → Nat → Int32} {J J' : Nat → Nat → Int64} {R : Nat} {L : q_Lg} (h : q_LM x y b c I J R L) (e1 : I' 53 x = I 53 x) (e2 : I' 53 y = I 53 y) (e3 : ∀ k, J' b k = J b k) (e4 : ∀ k, J' c k = J c k) : q_LM x y b c I' J' R L :=
  ⟨by rw [e1]; exact h.1, by rw [e2]; exact h.2.1, fun r x => by rw [e3]; exact h.2.2.1 r x, fun j x y r z => by rw [e4]; exact h.2.2.2 j x y r z⟩
theorem q_TX.of {I I' : Nat → Nat → Int32} {t : Nat × (Nat → Nat)} (h : q_TX I t) (e1 : I' 1 1 = I 1 1) (e : ∀ k, I' 2 k = I 2 k) : q_TX I' t := ⟨by rw [e1]; exact h.1, fun k x => by rw [e]; exact h.2 k x⟩
theorem q_TM.of {I I' : Nat → Nat → Int32} {t : Nat × (Nat → Nat)} (h : q_TM I t) (e1 : I' 53 6 = I 53 6) (e : ∀ k, I' 54 k = I 54 k) : q_TM I' t := ⟨by rw [e1]; exact h.1, fun k x => by rw [e]; exact h.2 k x⟩
theorem q_SX.of {I I' : Nat → Nat → Int32} {t : Nat × (Nat → Nat) × (Nat → Nat) × (Nat → Nat)} (h : q_SX I t) (e1 : I' 37 5 = I 37 5) (e : ∀ a k, (a = 38 ∨ a = 39 ∨ a = 40) → I' a k = I a k) : q_SX I' t := ⟨by rw [e1]; exact h.1, fun k x => ⟨by rw [e 38 _ (by omega)]; exact (h.2 k x).1, by rw [e 39 _ (by omega)]; exact (h.2 k x).2.1, by rw [e 40 _ (by omega)]; exact (h.2 k x).2.2⟩⟩
theorem q_SM.of {I I' : Nat → Nat → Int32} {t : Nat × (Nat → Nat) × (Nat → Nat) × (Nat → Nat)} (h : q_SM I t) (e1 : I' 53 48 = I 53 48) (e : ∀ a k, (a = 71 ∨ a = 72 ∨ a = 73) → I' a k = I a k) : q_SM I' t := ⟨by rw [e1]; exact h.1, fun k x => ⟨by rw [e 71 _ (by omega)]; exact (h.2 k x).1, by rw [e 72 _ (by omega)]; exact (h.2 k x).2.1, by rw [e 73 _ (by omega)]; exact (h.2 k x).2.2⟩⟩
theorem q_UM.of {I I' : Nat → Nat → Int32} {u : Nat × (Nat → Nat) × (Nat → Nat → Nat)} (h : q_UM I u) (e1 : I' 53 7 = I 53 7) (e : ∀ a k, (a = 55 ∨ a = 56) → I' a k = I a k) : q_UM I' u := ⟨by rw [e1]; exact h.1, fun k x => ⟨by rw [e 56 _ (by omega)]; exact (h.2 k x).1, fun i y => by rw [e 55 _ (by omega)]; exact (h.2 k x).2 i y⟩⟩
/-- the reference's side -/
def q_HM (I : Nat → Nat → Int32) (J : Nat → Nat → Int64) (s : q_Sg) : Prop := q_RM I (q_sD s) ∧ q_TM I (q_sT s) ∧ q_UM I (q_sU s) ∧ I 53 31 = nI (q_sF s) ∧ q_SM I (q_sS s) ∧ q_LM 51 52 74 75 I J (q_R (q_sD s)) (q_sL s) ∧ I 53 59 = (if q_sK s then 1 else 0) ∧ (q_sK s = true → (∀ r, r < q_R (q_sD s) → I 76 r = nI (q_ho (q_sE s) r)) ∧ (∀ p, 1 ≤ p → p ≤ q_W (q_sD s) → I 77 p = nI (q_mi (q_sE s) p)) ∧ q_LM 57 58 78 79 I J (q_R (q_sD s)) (q_sM s))
theorem q_HM.of {I I' : Nat → Nat → Int32} {J J' : Nat → Nat → Int64} {s : q_Sg} (h : q_HM I J s) (f : ∀ k, (k = 26 ∨ k = 27 ∨ k = 6 ∨ k = 7 ∨ k = 31 ∨ k = 48 ∨ k = 51 ∨ k = 52 ∨ k = 57 ∨ k = 58 ∨ k = 59) → I' 53 k = I 53 k) (e : ∀ a k, (a = 54 ∨ a = 55 ∨ a = 56 ∨ (58 ≤ a ∧ a ≤ 61) ∨ (71 ≤ a ∧ a ≤ 73) ∨ a = 76 ∨ a = 77) → I' a k = I a k) (g : ∀ a k, (a = 74 ∨ a = 75 ∨ a = 78 ∨ a = 79) → J' a k = J a k) : q_HM I' J' s := by
  obtain ⟨a, b, c, d, i, l, k, m⟩ := h
  refine ⟨a.of (f _ (by omega)) (f _ (by omega)) (fun x y z => e x y (by omega)), b.of (f _ (by omega)) (fun y => e _ y (by omega)), c.of (f _ (by omega)) (fun x y z => e x y (by omega)), by rw [f _ (by omega)]; exact d, i.of (f _ (by omega)) (fun x y z => e x y (by omega)), l.of (f _ (by omega)) (f _ (by omega)) (fun y => g _ y (by omega)) (fun y => g _ y (by omega)), by rw [f _ (by omega)]; exact k, fun z => ?_⟩
  obtain ⟨m1, m2, m3⟩ := m z
  exact ⟨fun r x => by rw [e _ _ (by omega)]; exact m1 r x, fun p x y => by rw [e _ _ (by omega)]; exact m2 p x y, m3.of (f _ (by omega)) (f _ (by omega)) (fun y => g _ y (by omega)) (fun y => g _ y (by omega))⟩
