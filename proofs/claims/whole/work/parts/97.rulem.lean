/-! ===== a rule's text read by the reference: signs, loops ===== -/
def q_MS (I : Nat → Nat → Int32) (T : Nat) (t : q_Tx) (E : Nat → Int32) (q a : Nat) : Prop := a ≤ t.1 ∧ q_MC I T t a (-1) ∧ I 53 12 = nI (6 - q) ∧ ∀ p, q_ltr p = true → I 57 p = E p
def q_mr (I I' : Nat → Nat → Int32) : Prop := ∀ x y, ¬ (x = 53 ∧ (y = 10 ∨ y = 11 ∨ y = 12)) → I' x y = I x y
def q_YR (P : Int32 → Prop) (I' : Nat → Nat → Int32) (T : Nat) (t : q_Tx) (E : Nat → Int32) (q : Nat) (v : Int32) (x : q_Rs) : Prop := P v ∧ (∀ f, x = .inl f → f ≤ t.1 ∧ I' 53 11 = nI f) ∧ ∀ r, x = .inr r → v = r.2.2 E ∧ q_MS I' T t E q r.1
def q_Y0 (P : Int32 → Prop) (T : Nat) (t : q_Tx) (E : Nat → Int32) (q : Nat) (F : (Nat → Nat → Int32) → Option (Int32 × (Nat → Nat → Int32))) (a : Nat) (x : q_Rs) : Prop := ∀ I, q_MS I T t E q a → ∃ v I', F I = some (v, I') ∧ q_mr I I' ∧ q_YR P I' T t E q v x
theorem q_mr.r (I : Nat → Nat → Int32) : q_mr I I := fun _ _ _ => rfl
theorem q_mr.t {I I1 I2 : Nat → Nat → Int32} (h : q_mr I I1) (g : q_mr I1 I2) : q_mr I I2 := fun x y z => by rw [g x y z]; exact h x y z
theorem q_mk.mr {I I1 : Nat → Nat → Int32} (h : q_mk I I1) : q_mr I I1 := fun x y z => h x y (fun w => z ⟨w.1, by omega⟩)
theorem q_mr.d (I : Nat → Nat → Int32) (v : Int32) : q_mr I (am_u I 53 12 v) := fun x y z => by unfold am_u; rw [if_neg (by omega)]
theorem q_MS.at {I I' : Nat → Nat → Int32} {T : Nat} {t : q_Tx} {E : Nat → Int32} {q a b : Nat} (h : q_MS I T t E q a) (hb : b ≤ t.1) (h' : q_MC I' T t b (-1)) (e : q_mk I I') : q_MS I' T t E q b := ⟨hb, h', by rw [e 53 12 (by omega)]; exact h.2.2.1, fun p hp => by rw [e 57 p (by omega)]; exact h.2.2.2 p hp⟩
theorem q_MS.dp {I : Nat → Nat → Int32} {T : Nat} {t : q_Tx} {E : Nat → Int32} {q q' a : Nat} (h : q_MS I T t E q a) : q_MS (am_u I 53 12 (nI (6 - q'))) T t E q' a := ⟨h.1, h.2.1.of (fun y _ _ => by unfold am_u; rw [if_neg (by omega)]) (fun x y hx => by unfold am_u; rw [if_neg (by omega)]), by simp [am_u], fun p hp => by unfold am_u; rw [if_neg (by omega)]; exact h.2.2.2 p hp⟩
theorem q_YR.l {P : Int32 → Prop} {I' : Nat → Nat → Int32} {T : Nat} {t : q_Tx} {E : Nat → Int32} {q : Nat} {v : Int32} {f : Nat} (hP : P v) (h1 : f ≤ t.1) (h2 : I' 53 11 = nI f) : q_YR P I' T t E q v (.inl f) := ⟨hP, fun g z => (by cases z; exact ⟨h1, h2⟩), fun r z => (by cases z)⟩
theorem q_YR.o {P : Int32 → Prop} {I' : Nat → Nat → Int32} {T : Nat} {t : q_Tx} {E : Nat → Int32} {q : Nat} {v : Int32} {r : Nat × List Int32 × q_Vl} (hP : P v) (h1 : v = r.2.2 E) (h2 : q_MS I' T t E q r.1) : q_YR P I' T t E q v (.inr r) := ⟨hP, fun g z => (by cases z), fun r' z => (by cases z; exact ⟨h1, h2⟩)⟩
section QW
variable {n : Nat} {J : Nat → Nat → Int64} {T : Nat} {t : q_Tx}
theorem m_among {I : Nat → Nat → Int32} {p r0 : Nat} (hr : r0 < 5) (hp : p < 256) {l : List Nat} (hl : f_J0_length_8abf5 n I J T r0 = some (nI l.length)) (hc : ∀ i, i < l.length → f_J0_charAt_5068e n I J T r0 (nI i) = some (nI (l.getD i 0))) (hx : ∀ x, x ∈ l → 0 < x ∧ x < 256) (hlen : l.length < 100) : ∀ (k i m : Nat), i + k = l.length → k < m → f_X12_isAmong_2 n m I J T r0 (q_sg p) (nI i) = some (if p ∈ l.drop i then 1 else 0) := by
  intro k
  induction k with
  | zero =>
    intro i m h1 h2
    obtain ⟨m', rfl⟩ : ∃ z, m = z + 1 := ⟨m - 1, by omega⟩
    rw [f_X12_isAmong_2, if_pos hr, hl, Option.bind_some, if_pos (nI_le (by omega) (by omega)), List.drop_eq_nil_of_le (by omega), if_neg (by simp)]
  | succ k ih =>
    intro i m h1 h2
    obtain ⟨m', rfl⟩ : ∃ z, m = z + 1 := ⟨m - 1, by omega⟩
    have hi : i < l.length := by omega
    have hmem : l.getD i 0 ∈ l := by
      rw [List.getD_eq_getElem?_getD, List.getElem?_eq_getElem hi]
      exact List.getElem_mem hi
    obtain ⟨x1, x2⟩ := hx _ hmem
    have hd : l.drop i = l.getD i 0 :: l.drop (i + 1) := by
      rw [List.getD_eq_getElem?_getD, List.getElem?_eq_getElem hi]
      exact List.drop_eq_getElem_cons hi
    rw [f_X12_isAmong_2, if_pos hr, hl, Option.bind_some, if_neg (nI_ge hi (by omega)), if_pos hr, hc i hi, Option.bind_some, hd]
    have he : (nI (l.getD i 0) = q_sg p) ↔ p = l.getD i 0 := q_sgs hp _ x2 (by omega)
    by_cases c : p = l.getD i 0
    · rw [if_pos (he.mpr c), if_pos (by rw [c]; exact List.mem_cons_self)]
    · rw [if_neg (fun z => c (he.mp z)), nI_1, ih (i + 1) m' (by omega) (by omega)]
      by_cases c2 : p ∈ l.drop (i + 1)
      · rw [if_pos c2, if_pos (List.mem_cons_of_mem _ c2)]
      · rw [if_neg c2, if_neg (fun z => (List.mem_cons.mp z).elim c c2)]
theorem m_among0 (hn : 300 ≤ n) {I : Nat → Nat → Int32} {p : Nat} (hp : p < 256) : f_X12_isAmong n I J T 0 (q_sg p) = some (if p = 121 then 1 else 0) := by
  have := m_among (n := n) (I := I) (J := J) (T := T) (p := p) (r0 := 0) (l := [121]) (by omega) hp rfl (fun i hi => by
    have hi' : i < 1 := hi
    rcases (show i = 0 by omega) with rfl
    rfl) (by simp) (by simp) 1 0 n rfl (by omega)
  rw [show (List.drop 0 [121] : List Nat) = [121] from rfl] at this
  simp only [List.mem_singleton] at this
  exact this
theorem m_among1 (hn : 300 ≤ n) {I : Nat → Nat → Int32} {p : Nat} (hp : p < 256) : f_X12_isAmong n I J T 1 (q_sg p) = some (if q_ltr p = true then 1 else 0) := by
  have := m_among (n := n) (I := I) (J := J) (T := T) (p := p) (r0 := 1) (l := [109, 115, 119, 110, 112, 107]) (by omega) hp rfl (fun i hi => by
    have hi' : i < 6 := hi
    rcases (show i = 0 ∨ i = 1 ∨ i = 2 ∨ i = 3 ∨ i = 4 ∨ i = 5 by omega) with rfl | rfl | rfl | rfl | rfl | rfl <;> rfl) (by simp) (by simp) 6 0 n rfl (by omega)
  rw [show (List.drop 0 [109, 115, 119, 110, 112, 107] : List Nat) = [109, 115, 119, 110, 112, 107] from rfl] at this
  have he : (p ∈ [109, 115, 119, 110, 112, 107]) ↔ q_ltr p = true := by
    unfold q_ltr
    simp only [List.mem_cons, List.not_mem_nil, or_false, Bool.or_eq_true, decide_eq_true_eq]
  simp only [he] at this
  exact this
theorem m_look_s (hn : 300 ≤ n) (ht : q_tok t) {E : Nat → Int32} {q a : Nat} {I : Nat → Nat → Int32} (h : q_MS I T t E q a) : ∃ I', f_X12_look n I J T = some (q_sg (q_pk t (q_sk t a)), I') ∧ q_mk I I' ∧ q_MS I' T t E q (q_sk t a) := by
  obtain ⟨I', e1, e2, e3⟩ := m_look (n := n) (J := J) (T := T) hn ht h.1 h.2.1
  exact ⟨I', e1, e3, h.at (q_sk_le h.1).2 e2 e3⟩
theorem q_MS.nx {E : Nat → Int32} {q a : Nat} {I : Nat → Nat → Int32} (h : q_MS I T t E q a) (ha : a < t.1) : q_MS (am_u I 53 10 (nI (a + 1))) T t E q (a + 1) := h.at ha (h.2.1.at _) (q_mk.a I _)
theorem m_takes (hn : 300 ≤ n) (ht : q_tok t) {E : Nat → Int32} {q a p : Nat} (hp : p < 256) (hp0 : p ≠ 0) {I : Nat → Nat → Int32} (h : q_MS I T t E q a) : ∃ I', f_X12_takes n I J T (nI p) = some (if q_pk t (q_sk t a) = p then 1 else 0, I') ∧ q_mk I I' ∧ (q_pk t (q_sk t a) = p → q_MS I' T t E q (q_sk t a + 1)) ∧ (q_pk t (q_sk t a) ≠ p → I' 53 11 = nI (q_sk t a)) := by
  obtain ⟨I1, e1, e2, e3⟩ := m_look_s (n := n) (J := J) (T := T) hn ht h
  have hpl := (q_pk_lt ht (q_sk t a)).1
  unfold f_X12_takes f_X12_takes_16
  rw [h.2.1.2.2, if_pos rfl, e1, Option.bind_some]
  by_cases c : q_pk t (q_sk t a) = p
  · have hlt := q_pk_in (t := t) (a := q_sk t a) (by rw [c]; exact hp0)
    simp only [if_pos ((q_sg_eq hpl hp hp0).mpr c), if_pos c, e3.2.1.2.1]
    rw [nI_1]
    exact ⟨_, rfl, e2.t (q_mk.a I1 _), fun _ => e3.nx hlt, fun z => absurd c z⟩
  · simp only [if_neg (fun z => c ((q_sg_eq hpl hp hp0).mp z)), if_neg c]
    rw [m_fails e3.2.1, Option.bind_some, if_pos (Or.inl rfl)]
    exact ⟨_, rfl, e2.t (q_mk.w I1 _), fun z => absurd z c, fun _ => (e3.2.1.wr _).2.2⟩
theorem m_takes_f {I : Nat → Nat → Int32} (h : I 53 11 ≠ -1) (v : Int32) : f_X12_takes n I J T v = some (0, I) := by
  unfold f_X12_takes f_X12_takes_16 f_X12_fails
  rw [if_neg h, if_neg h, Option.bind_some, if_pos (Or.inl rfl)]
theorem m_lp {P : Int32 → Prop} {E : Nat → Int32} {q : Nat} {op : Nat → Bool} {X : Nat → q_Rs} (ht : q_tok t) (h0 : op 0 = false) {A : (Nat → Nat → Int32) → Option (Int32 × (Nat → Nat → Int32))} (hA : ∀ b, b ≤ t.1 → q_Y0 P T t E q A b (X b)) (hok : ∀ b, b ≤ t.1 → q_rok t b (X b)) (hP : ∀ p x y, op p = true → P x → P y → P (q_op p x y)) (L : Nat → (Nat → Nat → Int32) → Int32 → Option (Int32 × (Nat → Nat → Int32))) (hfl : ∀ m I x, P x → I 53 11 ≠ -1 → L (m + 1) I x = some (x, I)) (hno : ∀ m I x a, P x → q_MS I T t E q a → op (q_pk t (q_sk t a)) = false → ∃ I', L (m + 1) I x = some (x, I') ∧ q_mk I I' ∧ q_MS I' T t E q (q_sk t a)) (hgo : ∀ m I x a, P x → q_MS I T t E q a → op (q_pk t (q_sk t a)) = true → ∃ I', q_mk I I' ∧ q_MS I' T t E q (q_sk t a + 1) ∧ (∀ v w, A I' = some (v, w) → L (m + 1) I x = L m w (q_op (q_pk t (q_sk t a)) x v))) : ∀ (m k : Nat) (r : Nat × List Int32 × q_Vl) (I : Nat → Nat → Int32), r.1 ≤ t.1 → t.1 - r.1 < m → t.1 - r.1 + 1 < k → P (r.2.2 E) → q_MS I T t E q r.1 → ∃ v I', L k I (r.2.2 E) = some (v, I') ∧ q_mr I I' ∧ q_YR P I' T t E q v (q_bl t op X m r) := by
  intro m
  induction m with
  | zero => intro k r I _ h; omega
  | succ m ih =>
    intro k r I hr hm hk hPr h
    have hs := q_sk_le (t := t) hr
    have h160 := ht.1
    obtain ⟨k', rfl⟩ : ∃ z, k = z + 1 := ⟨k - 1, by omega⟩
    unfold q_bl
    by_cases c1 : op (q_pk t (q_sk t r.1)) = true
    · have hp0 : q_pk t (q_sk t r.1) ≠ 0 := fun z => by rw [z, h0] at c1; cases c1
      have hlt := q_pk_in hp0
      obtain ⟨I1, g1, g2, g3⟩ := hgo k' I (r.2.2 E) r.1 hPr h c1
      obtain ⟨v, I2, a1, a2, a3⟩ := hA _ hlt I1 g2
      have hok1 := hok _ hlt
      rw [g3 v I2 a1, if_pos c1]
      have hPv := hP _ _ _ c1 hPr a3.1
      cases hX : X (q_sk t r.1 + 1) with
      | inl f =>
        rw [hX] at a3
        obtain ⟨f1, f2⟩ := a3.2.1 f rfl
        obtain ⟨k2, rfl⟩ : ∃ z, k' = z + 1 := ⟨k' - 1, by omega⟩
        rw [hfl k2 I2 _ hPv (by rw [f2]; exact q_nIm1 (by omega))]
        exact ⟨_, I2, rfl, g1.mr.t a2, q_YR.l hPv f1 f2⟩
      | inr z =>
        rw [hX] at a3 hok1
        obtain ⟨z1, z2, z3⟩ := hok1.2 z rfl
        obtain ⟨b1, b2⟩ := a3.2.2 z rfl
        rw [b1] at hPv ⊢
        obtain ⟨v', I', f1, f2, f3⟩ := ih k' (z.1, r.2.1 ++ (z.2.1 ++ [10000 + nI (q_pk t (q_sk t r.1))]), fun E => q_op (q_pk t (q_sk t r.1)) (r.2.2 E) (z.2.2 E)) I2 z2 (by show t.1 - z.1 < m; omega) (by show t.1 - z.1 + 1 < k'; omega) hPv b2
        exact ⟨v', I', f1, (g1.mr.t a2).t f2, f3⟩
    · have c1' : op (q_pk t (q_sk t r.1)) = false := by
        cases ho : op (q_pk t (q_sk t r.1)) with
        | true => exact absurd ho c1
        | false => rfl
      obtain ⟨I1, g1, g2, g3⟩ := hno k' I (r.2.2 E) r.1 hPr h c1'
      rw [g1, if_neg c1]
      exact ⟨_, I1, rfl, g2.mr, q_YR.o hPr rfl g3⟩
end QW
