/-! ===== a rule's text read by the class ===== -/
def q_PS (I : Nat → Nat → Int32) (t : q_Tx) (a : Nat) (c : List Int32) : Prop := a ≤ t.1 ∧ c.length ≤ a ∧ q_XC I t a (-1) ∧ I 17 2 = nI c.length ∧ ∀ i, i < c.length → I 18 i = c.getD i 0
def q_PF (I : Nat → Nat → Int32) (t : q_Tx) (f : Nat) : Prop := f ≤ t.1 ∧ t.1 ≤ 160 ∧ I 1 1 = nI t.1 ∧ I 1 3 = nI f ∧ ∃ s, s ≤ 160 ∧ I 17 2 = nI s
def q_PR (I : Nat → Nat → Int32) (t : q_Tx) (c : List Int32) (x : q_Rs) : Prop := (∀ f, x = .inl f → q_PF I t f) ∧ ∀ r, x = .inr r → q_PS I t r.1 (c ++ r.2.1)
def q_fr3 (I I' : Nat → Nat → Int32) : Prop := ∀ x y, x ≠ 1 → x ≠ 17 → x ≠ 18 → I' x y = I x y
def q_XG (t : q_Tx) (b : Nat) (F : (Nat → Nat → Int32) → Option (Nat → Nat → Int32)) (r : Nat × List Int32 × q_Vl) (x : q_Rs) : Prop := ∀ I c, c.length ≤ b → q_PS I t r.1 (c ++ r.2.1) → ∃ I', F I = some I' ∧ q_fr3 I I' ∧ q_PR I' t c x
def q_X0 (t : q_Tx) (F : (Nat → Nat → Int32) → Option (Nat → Nat → Int32)) (a : Nat) (x : q_Rs) : Prop := ∀ I c, q_PS I t a c → ∃ I', F I = some I' ∧ q_fr3 I I' ∧ q_PR I' t c x
def q_XH (t : q_Tx) (F : (Nat → Nat → Int32) → Option (Nat → Nat → Int32)) : Prop := ∀ I f, q_PF I t f → ∃ I', F I = some I' ∧ q_fr3 I I' ∧ q_PF I' t f
theorem q_fr3.r (I : Nat → Nat → Int32) : q_fr3 I I := fun _ _ _ _ _ => rfl
theorem q_fr3.t {I I1 I2 : Nat → Nat → Int32} (h : q_fr3 I I1) (g : q_fr3 I1 I2) : q_fr3 I I2 := fun x y h1 h2 h3 => by rw [g x y h1 h2 h3]; exact h x y h1 h2 h3
theorem q_PR.l {I : Nat → Nat → Int32} {t : q_Tx} {c : List Int32} {f : Nat} (h : q_PF I t f) : q_PR I t c (.inl f) := ⟨fun g z => (by cases z; exact h), fun r z => (by cases z)⟩
theorem q_PR.o {I : Nat → Nat → Int32} {t : q_Tx} {c : List Int32} {r : Nat × List Int32 × q_Vl} (h : q_PS I t r.1 (c ++ r.2.1)) : q_PR I t c (.inr r) := ⟨fun g z => (by cases z), fun r' z => (by cases z; exact h)⟩
theorem q_X0.seq {t : q_Tx} {F G : (Nat → Nat → Int32) → Option (Nat → Nat → Int32)} {a : Nat} {x : q_Rs} {g : Nat × List Int32 × q_Vl → q_Rs} (h : q_X0 t F a x) (hG : ∀ r, x = .inr r → q_XG t a G r (g r)) (hH : q_XH t G) : q_X0 t (fun I => (F I).bind G) a (q_rb x g) := by
  intro I c hS
  obtain ⟨I1, e1, e2, e3⟩ := h I c hS
  show ∃ I', (F I).bind G = some I' ∧ _
  rw [e1, Option.bind_some]
  cases x with
  | inl f =>
    obtain ⟨I2, g1, g2, g3⟩ := hH I1 f (e3.1 f rfl)
    exact ⟨I2, g1, e2.t g2, q_PR.l g3⟩
  | inr r =>
    obtain ⟨I2, g1, g2, g3⟩ := hG r rfl I1 c hS.2.1 (e3.2 r rfl)
    exact ⟨I2, g1, e2.t g2, g3⟩
theorem q_XG.seq {t : q_Tx} {F G : (Nat → Nat → Int32) → Option (Nat → Nat → Int32)} {b : Nat} {r0 : Nat × List Int32 × q_Vl} {x : q_Rs} {g : Nat × List Int32 × q_Vl → q_Rs} (h : q_XG t b F r0 x) (hG : ∀ r, x = .inr r → q_XG t b G r (g r)) (hH : q_XH t G) : q_XG t b (fun I => (F I).bind G) r0 (q_rb x g) := by
  intro I c hb hS
  obtain ⟨I1, e1, e2, e3⟩ := h I c hb hS
  show ∃ I', (F I).bind G = some I' ∧ _
  rw [e1, Option.bind_some]
  cases x with
  | inl f =>
    obtain ⟨I2, g1, g2, g3⟩ := hH I1 f (e3.1 f rfl)
    exact ⟨I2, g1, e2.t g2, q_PR.l g3⟩
  | inr r =>
    obtain ⟨I2, g1, g2, g3⟩ := hG r rfl I1 c hb (e3.2 r rfl)
    exact ⟨I2, g1, e2.t g2, g3⟩
theorem q_XH.seq {t : q_Tx} {F G : (Nat → Nat → Int32) → Option (Nat → Nat → Int32)} (h : q_XH t F) (hG : q_XH t G) : q_XH t (fun I => (F I).bind G) := by
  intro I f hS
  obtain ⟨I1, e1, e2, e3⟩ := h I f hS
  show ∃ I', (F I).bind G = some I' ∧ _
  rw [e1, Option.bind_some]
  obtain ⟨I2, g1, g2, g3⟩ := hG I1 f e3
  exact ⟨I2, g1, e2.t g2, g3⟩
/-- steps put behind steps -/
def q_cat (r z : Nat × List Int32 × q_Vl) (s : List Int32) (v : q_Vl) : Nat × List Int32 × q_Vl := (z.1, r.2.1 ++ (z.2.1 ++ s), v)
section QW
variable {n : Nat} {J : Nat → Nat → Int64} {T : Nat} {t : q_Tx}
theorem q_PF.ne {I : Nat → Nat → Int32} {f : Nat} (h : q_PF I t f) : I 1 3 ≠ -1 := by
  rw [h.2.2.2.1]
  exact q_nIm1 (by have := h.1; have := h.2.1; omega)
theorem q_PS.at {I I' : Nat → Nat → Int32} {a b : Nat} {c : List Int32} (h : q_PS I t a c) (hb : b ≤ t.1) (hab : a ≤ b) (h' : q_XC I' t b (-1)) (e : ∀ x y, x ≠ 1 → I' x y = I x y) : q_PS I' t b c := ⟨hb, by have := h.2.1; omega, h', by rw [e 17 2 (by omega)]; exact h.2.2.2.1, fun i hi => by rw [e 18 i (by omega)]; exact h.2.2.2.2 i hi⟩
theorem q_PS.fl {I I' : Nat → Nat → Int32} {a a' f : Nat} {c : List Int32} (ht : q_tok t) (h : q_PS I t a c) (hf : f ≤ t.1) (h' : q_XC I' t a' (nI f)) (e : ∀ x y, x ≠ 1 → I' x y = I x y) : q_PF I' t f := ⟨hf, ht.1, h'.1, h'.2.2.2, c.length, by have := h.2.1; have := h.1; have := ht.1; omega, by rw [e 17 2 (by omega)]; exact h.2.2.2.1⟩
theorem q_PS.put {I I' : Nat → Nat → Int32} {a : Nat} {c : List Int32} (h : q_PS I t a c) (h' : q_XC I' t a (-1)) (e : ∀ x y, x ≠ 1 → I' x y = I x y) (hb : a < t.1) : q_PS (am_u I' 1 2 (nI (a + 1))) t (a + 1) c := h.at hb (by omega) (h'.at _) (fun x y hx => by rw [q_fu1 x y hx]; exact e x y hx)
theorem x_emit (ht : q_tok t) {I : Nat → Nat → Int32} {a : Nat} {c : List Int32} (h : q_PS I t a c) (hc : c.length < a) (v : Int32) : ∃ I', f_X4_emit n I J T v = some I' ∧ q_fr3 I I' ∧ q_PS I' t a (c ++ [v]) := by
  have h160 := ht.1
  have ha := h.1
  have hix : ok_ix (nI c.length) 160 := q_ix (by omega) (by omega)
  have hcl : (nI c.length).toNatClampNeg = c.length := q_cl (by omega)
  unfold f_X4_emit
  rw [h.2.2.2.1, if_neg (show ¬ (160 : Int32) ≤ nI c.length from nI_ge (b := 160) (by omega) (by omega)), if_pos hix, hcl, nI_1]
  refine ⟨_, rfl, fun x y h1 h2 h3 => by unfold am_u; rw [if_neg (by omega), if_neg (by omega)], ha, by rw [List.length_append, List.length_singleton]; omega, ?_, ?_, fun i hi => ?_⟩
  · exact h.2.2.1.of (fun x y hx => by unfold am_u; rw [if_neg (by omega), if_neg (by omega)])
  · rw [List.length_append, List.length_singleton]
    simp [am_u]
  · rw [List.length_append, List.length_singleton] at hi
    unfold am_u
    rw [if_neg (by omega)]
    by_cases e : i = c.length
    · subst e
      rw [if_pos ⟨rfl, rfl⟩, List.getD_eq_getElem?_getD, List.getElem?_append_right (Nat.le_refl _), Nat.sub_self]
      rfl
    · rw [if_neg (fun z => e z.2), h.2.2.2.2 i (by omega), List.getD_eq_getElem?_getD, List.getD_eq_getElem?_getD, List.getElem?_append_left (by omega)]
theorem x_emit_f (v : Int32) : q_XH t (fun I => f_X4_emit n I J T v) := by
  intro I f h
  obtain ⟨h1, h160, h2, h3, s, s1, s2⟩ := h
  show ∃ I', f_X4_emit n I J T v = some I' ∧ _
  unfold f_X4_emit
  rw [s2]
  by_cases e : s = 160
  · subst e
    rw [if_pos (show (160 : Int32) ≤ nI 160 by decide)]
    exact ⟨I, rfl, q_fr3.r I, h1, h160, h2, h3, 160, s1, s2⟩
  · have hix : ok_ix (nI s) 160 := q_ix (by omega) (by omega)
    rw [if_neg (show ¬ (160 : Int32) ≤ nI s from nI_ge (b := 160) (by omega) (by omega)), if_pos hix, nI_1]
    refine ⟨_, rfl, fun x y h1 h2 h3 => by unfold am_u; rw [if_neg (by omega), if_neg (by omega)], h1, h160, ?_, ?_, s + 1, by omega, ?_⟩
    · unfold am_u
      rw [if_neg (by omega), if_neg (by omega)]
      exact h2
    · unfold am_u
      rw [if_neg (by omega), if_neg (by omega)]
      exact h3
    · simp [am_u]
theorem x_emit_g (ht : q_tok t) {b : Nat} {r : Nat × List Int32 × q_Vl} (hb : b + r.2.1.length < r.1) (v : Int32) (w : q_Vl) : q_XG t b (fun I => f_X4_emit n I J T v) r (.inr (r.1, r.2.1 ++ [v], w)) := by
  intro I c hc h
  obtain ⟨I', e1, e2, e3⟩ := x_emit (n := n) (J := J) (T := T) ht h (by rw [List.length_append]; omega) v
  exact ⟨I', e1, e2, q_PR.o (by show q_PS I' t r.1 (c ++ (r.2.1 ++ [v])); rw [← List.append_assoc]; exact e3)⟩
theorem x_expect_g (hn : 300 ≤ n) (ht : q_tok t) {b p : Nat} (hp : p < 256) (hp0 : p ≠ 0) (r : Nat × List Int32 × q_Vl) : q_XG t b (fun I => f_X10_expect n I J T (nI p)) r (q_xp t p r) := by
  intro I c hc h
  show ∃ I', f_X10_expect n I J T (nI p) = some I' ∧ _
  obtain ⟨I1, e1, e2, e3⟩ := x_sign (n := n) (J := J) (T := T) hn ht h.1 h.2.2.1
  have hs := q_sk_le (t := t) h.1
  have hpl := (q_pk_lt ht (q_sk t r.1)).1
  unfold f_X10_expect q_xp
  rw [e1, Option.bind_some]
  by_cases k : q_pk t (q_sk t r.1) = p
  · have hlt := q_pk_in (t := t) (a := q_sk t r.1) (by rw [k]; exact hp0)
    simp only [if_pos ((q_sg_eq hpl hp hp0).mpr k), if_pos k, e2.2.2.1]
    rw [nI_1]
    exact ⟨_, rfl, fun x y h1 h2 h3 => by rw [q_fu1 x y h1]; exact e3 x y h1, q_PR.o (h.at (b := q_sk t r.1 + 1) hlt (by omega) (e2.at _) (fun x y hx => by rw [q_fu1 x y hx]; exact e3 x y hx))⟩
  · simp only [if_neg (fun z => k ((q_sg_eq hpl hp hp0).mp z)), if_neg k, e2.2.2.1]
    rw [x_fail e2, Option.bind_some]
    refine ⟨_, rfl, fun x y h1 h2 h3 => by rw [q_fu1 x y h1]; exact e3 x y h1, q_PR.l ?_⟩
    exact q_PS.fl (I := I1) (a := q_sk t r.1) ht (h.at hs.2 hs.1 e2 e3) hs.2 (e2.wr _) q_fu1
theorem x_expect_f {p : Nat} (hp : p < 256) : q_XH t (fun I => f_X10_expect n I J T (nI p)) := by
  intro I f h
  show ∃ I', f_X10_expect n I J T (nI p) = some I' ∧ _
  have hne : ¬ (-1 : Int32) = nI p := fun z => by
    have h2 : (nI p).toInt = -1 := by rw [← z]; rfl
    rw [show (nI p).toInt = (p : Int) from nI_toInt (by omega)] at h2
    omega
  unfold f_X10_expect
  rw [x_sign_f h.ne, Option.bind_some]
  simp only [if_neg hne]
  rw [x_fail_f h.ne, Option.bind_some]
  exact ⟨I, rfl, q_fr3.r I, h⟩
/-- the sign at the cursor, in the state of a rule -/
theorem x_sign_s (hn : 300 ≤ n) (ht : q_tok t) {a : Nat} {c : List Int32} {I : Nat → Nat → Int32} (h : q_PS I t a c) : ∃ I', f_X10_sign n I J T = some (q_sg (q_pk t (q_sk t a)), I') ∧ q_fr3 I I' ∧ q_PS I' t (q_sk t a) c := by
  obtain ⟨I1, e1, e2, e3⟩ := x_sign (n := n) (J := J) (T := T) hn ht h.1 h.2.2.1
  have hs := q_sk_le (t := t) h.1
  exact ⟨I1, e1, fun x y h1 _ _ => e3 x y h1, h.at hs.2 hs.1 e2 e3⟩
theorem x_opens (hn : 300 ≤ n) (ht : q_tok t) {a p d : Nat} {c : List Int32} (hp : p < 256) (hp0 : p ≠ 0) (hd : d ≤ 6) {I : Nat → Nat → Int32} (h : q_PS I t a c) : ∃ I', f_X4_opens n I J T (nI p) (nI d) = some (if q_pk t (q_sk t a) = p ∧ d < 6 then 1 else 0, I') ∧ q_fr3 I I' ∧ (q_pk t (q_sk t a) = p → d < 6 → q_PS I' t (q_sk t a + 1) c) ∧ (q_pk t (q_sk t a) = p → ¬ d < 6 → q_PF I' t (q_sk t a)) ∧ (q_pk t (q_sk t a) ≠ p → q_PS I' t (q_sk t a) c) := by
  obtain ⟨I1, e1, e2, e3⟩ := x_sign (n := n) (J := J) (T := T) hn ht h.1 h.2.2.1
  have hs := q_sk_le (t := t) h.1
  have hpl := (q_pk_lt ht (q_sk t a)).1
  have h1s := h.at hs.2 hs.1 e2 e3
  unfold f_X4_opens
  rw [e1, Option.bind_some]
  by_cases k : q_pk t (q_sk t a) = p
  · have hlt := q_pk_in (t := t) (a := q_sk t a) (by rw [k]; exact hp0)
    simp only [if_pos ((q_sg_eq hpl hp hp0).mpr k), e2.2.2.1]
    by_cases hd6 : d < 6
    · rw [if_pos (show nI d < (6 : Int32) from nI_lt (b := 6) hd6 (by omega)), if_pos ⟨k, hd6⟩, nI_1]
      exact ⟨_, rfl, fun x y h1 h2 h3 => by rw [q_fu1 x y h1]; exact e3 x y h1, fun _ _ => h.at (b := q_sk t a + 1) hlt (by omega) (e2.at _) (fun x y hx => by rw [q_fu1 x y hx]; exact e3 x y hx), fun _ z => absurd hd6 z, fun z => absurd k z⟩
    · rw [if_neg (show ¬ nI d < (6 : Int32) from nI_nlt (b := 6) (by omega) (by omega)), if_neg (fun z => hd6 z.2), x_fail e2, Option.bind_some]
      exact ⟨_, rfl, fun x y h1 h2 h3 => by rw [q_fu1 x y h1]; exact e3 x y h1, fun _ z => absurd z hd6, fun _ _ => h1s.fl ht hs.2 (e2.wr _) q_fu1, fun z => absurd k z⟩
  · simp only [if_neg (fun z => k ((q_sg_eq hpl hp hp0).mp z)), if_neg (show ¬ (q_pk t (q_sk t a) = p ∧ d < 6) from fun z => k z.1)]
    exact ⟨I1, rfl, fun x y h1 _ _ => e3 x y h1, fun z => absurd z k, fun z => absurd z k, fun _ => h1s⟩
theorem x_opens_f {p : Nat} (hp : p < 256) {I : Nat → Nat → Int32} (h : I 1 3 ≠ -1) (d : Int32) : f_X4_opens n I J T (nI p) d = some (0, I) := by
  have hne : ¬ (-1 : Int32) = nI p := fun z => by
    have h2 : (nI p).toInt = -1 := by rw [← z]; rfl
    rw [show (nI p).toInt = (p : Int) from nI_toInt (by omega)] at h2
    omega
  unfold f_X4_opens
  rw [x_sign_f h, Option.bind_some]
  simp only [if_neg hne]
end QW
