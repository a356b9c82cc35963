/-! ===== the class's side of the state ===== -/
def q_UX (V : (Nat → Int32) → Int32 → Nat → (Nat → Nat) → Prop) (I : Nat → Nat → Int32) (u : Nat × (Nat → Nat) × (Nat → Nat → Nat)) : Prop := I 19 4 = nI u.1 ∧ ∀ k, k < u.1 → V (I (21 + k)) (I 25 k) (u.2.1 k) (u.2.2 k)
theorem q_UX.of {V : (Nat → Int32) → Int32 → Nat → (Nat → Nat) → Prop} {I I' : Nat → Nat → Int32} {u : Nat × (Nat → Nat) × (Nat → Nat → Nat)} (hu : u.1 ≤ 4) (h : q_UX V I u) (e1 : I' 19 4 = I 19 4) (e : ∀ a k, 21 ≤ a → a ≤ 25 → I' a k = I a k) : q_UX V I' u :=
  ⟨by rw [e1]; exact h.1, fun k x => by
    have e2 : I' (21 + k) = I (21 + k) := funext fun j => e _ j (by omega) (by omega)
    rw [e2, e 25 k (by omega) (by omega)]
    exact h.2 k x⟩
def q_HX (V : (Nat → Int32) → Int32 → Nat → (Nat → Nat) → Prop) (I : Nat → Nat → Int32) (J : Nat → Nat → Int64) (s : q_Sg) : Prop := q_RX I (q_sD s) ∧ q_TX I (q_sT s) ∧ q_UX V I (q_sU s) ∧ I 0 15 = nI (q_sF s) ∧ q_SX I (q_sS s) ∧ q_LX 41 42 43 I J (q_R (q_sD s)) (q_sL s) ∧ I 0 14 = (if q_sK s then 1 else 0) ∧ (q_sK s = true → q_RX (fun a k => I (a + 41) k) (q_sE s) ∧ q_LX 50 51 52 I J (q_R (q_sD s)) (q_sM s)) ∧ (∀ k, k < 7 → I 32 k = 0 ∧ I 33 k = 0)
theorem q_HX.of {V : (Nat → Int32) → Int32 → Nat → (Nat → Nat) → Prop} {I I' : Nat → Nat → Int32} {J J' : Nat → Nat → Int64} {s : q_Sg} (hu : q_uok (q_sU s)) (h : q_HX V I J s) (f : ∀ a k, ((a = 0 ∧ (k = 14 ∨ k = 15)) ∨ (a = 1 ∧ k = 1) ∨ (a = 19 ∧ k = 4) ∨ (a = 37 ∧ k = 5) ∨ (a = 41 ∧ (k = 2 ∨ k = 3)) ∨ (a = 50 ∧ (k = 2 ∨ k = 3))) → I' a k = I a k) (e : ∀ a k, ((2 ≤ a ∧ a ≤ 8) ∨ (21 ≤ a ∧ a ≤ 25) ∨ a = 32 ∨ a = 33 ∨ (38 ≤ a ∧ a ≤ 40) ∨ (44 ≤ a ∧ a ≤ 49)) → I' a k = I a k) (g : ∀ a k, (a = 42 ∨ a = 43 ∨ a = 51 ∨ a = 52) → J' a k = J a k) : q_HX V I' J' s := by
  obtain ⟨a, b, c, d, i, l, k, m, t⟩ := h
  have ofR : ∀ {I I' : Nat → Nat → Int32} {D : q_Rd}, q_RX I D → (∀ a k, 3 ≤ a → a ≤ 8 → I' a k = I a k) → q_RX I' D := by
    intro I I' D h e
    obtain ⟨⟨a1, a2, a3, a4, a5⟩, b, c⟩ := h
    exact ⟨⟨by rw [e 3 _ (by omega) (by omega)]; exact a1, by rw [e 3 _ (by omega) (by omega)]; exact a2, by rw [e 3 _ (by omega) (by omega)]; exact a3, by rw [e 3 _ (by omega) (by omega)]; exact a4, by rw [e 3 _ (by omega) (by omega)]; exact a5⟩, fun p x y => ⟨by rw [e 4 _ (by omega) (by omega)]; exact (b p x y).1, by rw [e 5 _ (by omega) (by omega)]; exact (b p x y).2⟩, fun r x => ⟨by rw [e 6 _ (by omega) (by omega)]; exact (c r x).1, by rw [e 7 _ (by omega) (by omega)]; exact (c r x).2.1, by rw [e 8 _ (by omega) (by omega)]; exact (c r x).2.2⟩⟩
  refine ⟨ofR a (fun x y z w => e x y (by omega)), b.of (f _ _ (by omega)) (fun y => e _ y (by omega)), c.of hu.1 (f _ _ (by omega)) (fun x y z w => e x y (by omega)), by rw [f _ _ (by omega)]; exact d, i.of (f _ _ (by omega)) (fun x y z => e x y (by omega)), l.of (f _ _ (by omega)) (f _ _ (by omega)) (fun y => g _ y (by omega)) (fun y => g _ y (by omega)), by rw [f _ _ (by omega)]; exact k, fun z => ?_, fun k x => ⟨by rw [e 32 _ (by omega)]; exact (t k x).1, by rw [e 33 _ (by omega)]; exact (t k x).2⟩⟩
  obtain ⟨m1, m2⟩ := m z
  exact ⟨ofR m1 (fun x y z w => e (x + 41) y (by omega)), m2.of (f _ _ (by omega)) (f _ _ (by omega)) (fun y => g _ y (by omega)) (fun y => g _ y (by omega))⟩
/-- what a call of the class leaves alone, and one of the reference -/
def q_fX (I I' : Nat → Nat → Int32) (J J' : Nat → Nat → Int64) : Prop := (∀ a k, 53 ≤ a → I' a k = I a k) ∧ ∀ a k, 53 ≤ a → J' a k = J a k
def q_fM (I I' : Nat → Nat → Int32) (J J' : Nat → Nat → Int64) : Prop := (∀ a k, a < 53 → I' a k = I a k) ∧ ∀ a k, a < 53 → J' a k = J a k
theorem q_fX.r (I : Nat → Nat → Int32) (J : Nat → Nat → Int64) : q_fX I I J J := ⟨fun _ _ _ => rfl, fun _ _ _ => rfl⟩
theorem q_HM.fX {I I' : Nat → Nat → Int32} {J J' : Nat → Nat → Int64} {s : q_Sg} (h : q_HM I J s) (f : q_fX I I' J J') : q_HM I' J' s := h.of (fun k _ => f.1 53 k (by omega)) (fun a k _ => f.1 a k (by omega)) (fun a k _ => f.2 a k (by omega))
theorem q_HX.fM {V : (Nat → Int32) → Int32 → Nat → (Nat → Nat) → Prop} {I I' : Nat → Nat → Int32} {J J' : Nat → Nat → Int64} {s : q_Sg} (hu : q_uok (q_sU s)) (h : q_HX V I J s) (f : q_fM I I' J J') : q_HX V I' J' s := h.of hu (fun a k _ => f.1 a k (by omega)) (fun a k _ => f.1 a k (by omega)) (fun a k _ => f.2 a k (by omega))
/-- thrown is laid, and nothing else -/
theorem q_HM.th {I : Nat → Nat → Int32} {J : Nat → Nat → Int64} {s : q_Sg} (h : q_HM I J s) (v : Int32) : q_HM (am_u I 53 0 v) J s := h.of (fun k hk => by unfold am_u; rw [if_neg (by omega)]) (fun a k ha => by unfold am_u; rw [if_neg (by omega)]) (fun _ _ _ => rfl)
theorem q_fM.th (I : Nat → Nat → Int32) (J : Nat → Nat → Int64) (v : Int32) : q_fM I (am_u I 53 0 v) J J := ⟨fun a k ha => by unfold am_u; rw [if_neg (by omega)], fun _ _ _ => rfl⟩
/-- a whole number not below 0 -/
theorem q_nn {x : Int32} (h : 0 ≤ x) : ∃ k, k < 2 ^ 31 ∧ x = nI k := by
  refine ⟨x.toNatClampNeg, ?_, ?_⟩
  · have := x.toInt_lt
    show x.toInt.toNat < _
    omega
  · have h1 : (0 : Int32).toInt ≤ x.toInt := Int32.le_iff_toInt_le.mp h
    have h0 : (0 : Int32).toInt = 0 := by decide
    show x = Int32.ofNat x.toInt.toNat
    apply Int32.toInt_inj.mp
    rw [Int32.toInt_ofNat_of_lt (by have := x.toInt_lt; omega)]
    omega
