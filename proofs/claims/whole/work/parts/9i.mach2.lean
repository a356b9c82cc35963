/-! ===== what a rule tells leaves its value on the stack ===== -/
theorem q_atm_ck {t : q_Tx} {sub : Nat → q_Rs} {q : Nat} (hsub : 0 < q → ∀ b, q_ck q_any (sub b)) (a : Nat) : q_ck q_any (q_atm t sub q a) := by
  unfold q_atm
  by_cases c1 : q_dig t (q_sk t a) = true
  · obtain ⟨g1, -, -, -⟩ := q_dig_pk c1
    have h4 := q_num4 (t := t) (a := q_sk t a) (by omega)
    rw [if_pos c1]
    by_cases c2 : q_dig t (q_dl t 4 (q_sk t a) 0).1 = true
    · rw [if_pos c2]
      exact fun r z => (by cases z)
    · rw [if_neg c2]
      intro r z
      cases z
      refine ⟨fun s hs => ?_, fun E st => q_s1_n h4, fun E => trivial⟩
      rw [List.mem_singleton.mp hs]
      exact Or.inl ⟨_, h4, rfl⟩
  · rw [if_neg c1]
    by_cases c2 : q_ltr (q_pk t (q_sk t a)) = true
    · rw [if_pos c2]
      intro r z
      cases z
      refine ⟨fun s hs => ?_, fun E st => q_s1_l c2, fun E => trivial⟩
      rw [List.mem_singleton.mp hs]
      exact Or.inr (Or.inr (Or.inl ⟨_, c2, rfl⟩))
    · rw [if_neg c2]
      by_cases c3 : q_pk t (q_sk t a) = 91 ∧ 0 < q
      · rw [if_pos c3]
        exact (hsub c3.2 _).b (fun r h => q_xp_ck h)
      · rw [if_neg c3]
        exact fun r z => (by cases z)
theorem q_trm_ck {t : q_Tx} {sub : Nat → q_Rs} {q : Nat} (hsub : 0 < q → ∀ b, q_ck q_any (sub b)) (a : Nat) : q_ck q_any (q_trm t sub q a) :=
  (q_atm_ck hsub a).b (fun r h => q_bl_ck (fun p hp => ⟨(q_pr2_s (Or.inl hp) 0 0).2, fun x y _ _ => ⟨(q_pr2_s (Or.inl hp) x y).1, trivial⟩⟩) (q_atm_ck hsub) _ r h)
theorem q_smF_ck {t : q_Tx} {sub : Nat → q_Rs} {q : Nat} (hsub : 0 < q → ∀ b, q_ck q_any (sub b)) (a : Nat) : q_ck q_any (q_smF t sub q a) :=
  (q_trm_ck hsub a).b (fun r h => q_bl_ck (fun p hp => ⟨(q_pr2_s (Or.inr (Or.inl hp)) 0 0).2, fun x y _ _ => ⟨(q_pr2_s (Or.inr (Or.inl hp)) x y).1, trivial⟩⟩) (q_trm_ck hsub) _ r h)
theorem q_sum_ck {t : q_Tx} : ∀ (q a : Nat), q_ck q_any (q_sum t q a) := by
  intro q
  induction q with
  | zero => exact fun a => q_smF_ck (fun h => absurd h (Nat.lt_irrefl _)) a
  | succ q ih => exact fun a => q_smF_ck (fun _ => ih) a
theorem q_b1_oC {p : Nat} (h : q_oC p = true) (x y : Int32) : q_b1 (q_op p x y) := by
  unfold q_oC at h
  simp only [Bool.or_eq_true, decide_eq_true_eq] at h
  rcases h with rfl | rfl | rfl
  · rw [q_op_61]; exact q_b1_i
  · rw [q_op_60]; exact q_b1_i
  · rw [q_op_62]; exact q_b1_i
theorem q_cmp_ck {t : q_Tx} {q : Nat} {r : Nat × List Int32 × q_Vl} (h : q_ck q_any (.inr r)) : q_ck q_b1 (q_cmp t q r) := by
  unfold q_cmp
  by_cases c : q_oC (q_pk t (q_sk t r.1)) = true
  · rw [if_pos c]
    exact (q_sum_ck q _).b (fun z hz => q_cat_ck (q_pr2_s (Or.inr (Or.inr c)) 0 0).2 (fun x y _ _ => ⟨(q_pr2_s (Or.inr (Or.inr c)) x y).1, q_b1_oC c x y⟩) h hz)
  · rw [if_neg c]
    exact fun r z => (by cases z)
theorem q_unF_ck {t : q_Tx} {subU subC : Nat → q_Rs} {q : Nat} (hU : 0 < q → ∀ b, q_ck q_b1 (subU b)) (hC : 0 < q → ∀ b, q_ck q_b1 (subC b)) (a : Nat) : q_ck q_b1 (q_unF t subU subC q a) := by
  unfold q_unF
  by_cases c1 : q_pk t (q_sk t a) = 33
  · rw [if_pos c1]
    by_cases c2 : 0 < q
    · rw [if_pos c2]
      refine (hU c2 _).b (fun z hz => ?_)
      intro r e
      cases e
      obtain ⟨z1, z2, z3⟩ := hz z rfl
      refine ⟨fun s hs => ?_, fun E st => ?_, fun E => ?_⟩
      · rcases List.mem_append.mp hs with h | h
        · exact z1 s h
        · rw [List.mem_singleton.mp h]
          exact Or.inr (Or.inl rfl)
      · show q_mst E (z.2.1 ++ [10033]) st = _
        rw [q_mst_app, z2]
        rfl
      · show q_b1 (1 - z.2.2 E)
        rcases z3 E with h | h
        · rw [h]; exact Or.inr rfl
        · rw [h]; exact Or.inl rfl
    · rw [if_neg c2]
      exact fun r z => (by cases z)
  · rw [if_neg c1]
    by_cases c2 : q_pk t (q_sk t a) = 40
    · rw [if_pos c2]
      by_cases c3 : 0 < q
      · rw [if_pos c3]
        exact (hC c3 _).b (fun r h => q_xp_ck h)
      · rw [if_neg c3]
        exact fun r z => (by cases z)
    · rw [if_neg c2]
      exact (q_sum_ck q a).b (fun r h => q_cmp_ck h)
theorem q_pr2_38 {x y : Int32} (hx : q_b1 x) (hy : q_b1 y) : q_pr2 38 x y = q_op 38 x y := by
  rcases hx with rfl | rfl <;> rcases hy with rfl | rfl <;> rfl
theorem q_pr2_124 {x y : Int32} (hx : q_b1 x) (hy : q_b1 y) : q_pr2 124 x y = q_op 124 x y := by
  rcases hx with rfl | rfl <;> rcases hy with rfl | rfl <;> rfl
theorem q_ors_ck {t : q_Tx} {U : Nat → q_Rs} (hU : ∀ b, q_ck q_b1 (U b)) {x : q_Rs} (hx : q_ck q_b1 x) : q_ck q_b1 (q_ors t U x) := by
  have hA : ∀ x, q_ck q_b1 x → q_ck q_b1 (q_andz t U x) := fun x h => h.b (fun r hr => q_bl_ck (fun p hp => by
    have e : p = 38 := decide_eq_true_iff.mp hp
    rw [e]
    exact ⟨rfl, fun x y h1 h2 => ⟨q_pr2_38 h1 h2, q_b1_38 x y⟩⟩) hU _ r hr)
  exact (hA x hx).b (fun r hr => q_bl_ck (fun p hp => by
    have e : p = 124 := decide_eq_true_iff.mp hp
    rw [e]
    exact ⟨rfl, fun x y h1 h2 => ⟨q_pr2_124 h1 h2, q_b1_124 x y⟩⟩) (fun a => hA _ (hU a)) _ r hr)
theorem q_unt_ck {t : q_Tx} : ∀ (q a : Nat), q_ck q_b1 (q_unt t q a) := by
  intro q
  induction q with
  | zero => exact fun a => q_unF_ck (fun h => absurd h (Nat.lt_irrefl _)) (fun h => absurd h (Nat.lt_irrefl _)) a
  | succ q ih => exact fun a => q_unF_ck (fun _ => ih) (fun _ b => q_ors_ck ih (ih b)) a
/-- a clause's steps: those of a condition and of a sum, or of a sum only -/
def q_ckl (s : List Int32) (c v : q_Vl) : Prop := ∃ cs vs : List Int32, ((s = cs ++ (10063 :: (vs ++ [10059])) ∧ (∀ x, x ∈ cs → q_sp x) ∧ ∀ E st, q_mst E cs st = c E :: st) ∨ (s = vs ++ [10059] ∧ c = fun _ => 1)) ∧ (∀ x, x ∈ vs → q_sp x) ∧ ∀ E st, q_mst E vs st = v E :: st
theorem q_qmr_ck {t : q_Tx} {r : Nat × List Int32 × q_Vl} (h : q_ck q_b1 (.inr r)) : ∀ z, q_cq (q_qmr t r) r.2.2 = .inr z → q_ckl z.1.2.1 z.2 z.1.2.2 := by
  intro z e
  unfold q_qmr q_xp at e
  by_cases c : q_pk t (q_sk t r.1) = 63
  · rw [if_pos c] at e
    have hs := q_sum_ck (t := t) 6 (q_sk t r.1 + 1)
    have e' : q_cq (q_rb (q_sum t 6 (q_sk t r.1 + 1)) (fun z => .inr (z.1, r.2.1 ++ (10063 :: (z.2.1 ++ [10059])), z.2.2))) r.2.2 = .inr z := e
    cases hq : q_sum t 6 (q_sk t r.1 + 1) with
    | inl f => rw [hq] at e'; cases e'
    | inr y =>
      rw [hq] at e' hs
      cases e'
      obtain ⟨y1, y2, -⟩ := hs y rfl
      obtain ⟨r1, r2, -⟩ := h r rfl
      exact ⟨r.2.1, y.2.1, Or.inl ⟨rfl, r1, r2⟩, y1, y2⟩
  · rw [if_neg c] at e
    cases e
theorem q_cla_ck {t : q_Tx} {a : Nat} : ∀ z, q_cla t a = .inr z → q_ckl z.1.2.1 z.2 z.1.2.2 := by
  intro z e
  unfold q_cla at e
  cases hb : q_yc t a with
  | inl f => rw [hb] at e; cases e
  | inr b =>
    rw [hb] at e
    simp only [] at e
    by_cases c1 : q_pk t (q_sk t b) = 33 ∨ q_pk t (q_sk t b) = 40
    · rw [if_pos c1] at e
      have hc : q_ck q_b1 (q_cnd t 6 b) := q_ors_ck (q_unt_ck 6) (q_unt_ck 6 b)
      cases hz : q_cnd t 6 b with
      | inl f => rw [hz] at e; cases e
      | inr y =>
        rw [hz] at e hc
        exact q_qmr_ck hc z e
    · rw [if_neg c1] at e
      have hs := q_sum_ck (t := t) 6 b
      cases hz : q_sum t 6 b with
      | inl f => rw [hz] at e; cases e
      | inr y =>
        rw [hz] at e hs
        simp only [] at e
        by_cases c2 : q_oC (q_pk t (q_sk t y.1)) = true
        · rw [if_pos c2] at e
          have ho : q_ck q_b1 (q_ors t (q_unt t 6) (q_cmp t 6 y)) := q_ors_ck (q_unt_ck 6) (q_cmp_ck hs)
          cases hw : q_ors t (q_unt t 6) (q_cmp t 6 y) with
          | inl f => rw [hw] at e; cases e
          | inr w =>
            rw [hw] at e ho
            exact q_qmr_ck ho z e
        · rw [if_neg c2] at e
          cases e
          obtain ⟨y1, y2, -⟩ := hs y rfl
          exact ⟨[], y.2.1, Or.inr ⟨rfl, rfl⟩, y1, y2⟩
/-- a rule's steps, clause by clause -/
def q_ckr : List Int32 → List (q_Vl × q_Vl) → Prop
  | s, [] => s = []
  | s, c :: l => ∃ s1 s2, s = s1 ++ s2 ∧ q_ckl s1 c.1 c.2 ∧ q_ckr s2 l
theorem q_ckr_app {s2 : List Int32} {c v : q_Vl} (h2 : q_ckl s2 c v) : ∀ (l : List (q_Vl × q_Vl)) (s : List Int32), q_ckr s l → q_ckr (s ++ s2) (l ++ [(c, v)]) := by
  intro l
  induction l with
  | nil =>
    intro s h
    have h' : s = [] := h
    exact ⟨s2, [], by rw [h', List.nil_append, List.append_nil], h2, rfl⟩
  | cons d l ih =>
    intro s h
    obtain ⟨a, b, e, h1, h3⟩ := h
    exact ⟨a, b ++ s2, by rw [e, List.append_assoc], h1, ih b h3⟩
theorem q_rul_ck {t : q_Tx} : ∀ (m a : Nat) (s : List Int32) (l : List (q_Vl × q_Vl)), q_ckr s l → ∀ r, q_rul t m a s l = .inr r → q_ckr r.1 r.2 := by
  intro m
  induction m with
  | zero => intro a s l _ r e; cases e
  | succ m ih =>
    intro a s l h r e
    unfold q_rul at e
    by_cases c : q_pk t (q_sk t a) = 59
    · rw [if_pos c] at e
      cases hq : q_cla t (q_sk t a + 1) with
      | inl f => rw [hq] at e; cases e
      | inr z =>
        rw [hq] at e
        exact ih _ _ _ (q_ckr_app (q_cla_ck z hq) l s h) r e
    · rw [if_neg c] at e
      by_cases c0 : q_pk t (q_sk t a) = 0
      · rw [if_pos c0] at e
        cases e
        exact h
      · rw [if_neg c0] at e
        cases e
theorem q_rule_ck {t : q_Tx} {r : List Int32 × List (q_Vl × q_Vl)} (e : q_rule t = .inr r) : q_ckr r.1 r.2 := by
  unfold q_rule at e
  cases hq : q_cla t 0 with
  | inl f => rw [hq] at e; cases e
  | inr z =>
    rw [hq] at e
    have h0 : q_ckr z.1.2.1 [(z.2, z.1.2.2)] := ⟨z.1.2.1, [], (List.append_nil _).symm, q_cla_ck z hq, rfl⟩
    exact q_rul_ck _ _ _ _ h0 r e
