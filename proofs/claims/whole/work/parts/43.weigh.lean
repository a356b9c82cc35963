/-! ===== the class weighs ===== -/
/-- all but what weighing lays -/
def q_wf (I0 I : Nat → Nat → Int32) : Prop := ∀ a c, ¬ (a = 28 ∨ a = 26 ∨ a = 29 ∨ (a = 19 ∧ c = 3)) → I a c = I0 a c
/-- what is asked of the weight of one rider -/
def q_wc (n : Nat) (J : Nat → Nat → Int64) (T : Nat) (D : q_Rd) (w : Nat → Nat → Nat) (I0 : Nat → Nat → Int32) : Prop := ∀ I, q_wf I0 I → q_cc I D → ∀ r m, r < q_R D → 1 ≤ m → m ≤ q_R D → ∃ I', f_X7_weightOf n I J T (nI r) (nI m) = some (nI (w r m), I') ∧ q_wf I0 I' ∧ q_cc I' D ∧ ∀ c, I' 29 c = I 29 c
theorem q_wf.R {I0 I : Nat → Nat → Int32} {D : q_Rd} (h : q_RX I0 D) (f : q_wf I0 I) : q_RX I D := h.of3 (fun a k _ _ => f a k (by omega))
section QW
variable {n : Nat} {J : Nat → Nat → Int64} {T : Nat} {D : q_Rd} {w : Nat → Nat → Nat} {I0 : Nat → Nat → Int32}
theorem x_fill_loop : ∀ (m k : Nat) (I : Nat → Nat → Int32), k ≤ 64 → 64 - k < m → ∃ I', f_J7_fill_53178_5 n m I J T (-1) (nI k) 64 = some I' ∧ (∀ j, k ≤ j → j < 64 → I' 28 j = -1) ∧ (∀ j, j < k → I' 28 j = I 28 j) ∧ ∀ a j, a ≠ 28 → I' a j = I a j := by
  intro m
  induction m with
  | zero => intro k I _ h; omega
  | succ m ih =>
    intro k I hk hm
    rw [f_J7_fill_53178_5]
    by_cases e : k = 64
    · subst e
      rw [if_pos (show (64 : Int32) ≤ nI 64 by decide +kernel)]
      exact ⟨I, rfl, fun j a b => by omega, fun _ _ => rfl, fun _ _ _ => rfl⟩
    · have e1 : ¬ (64 : Int32) ≤ nI k := nI_ge (b := 64) (by omega) (by omega)
      rw [if_neg e1, if_pos (q_ix (by omega) (by omega)), q_cl (by omega), nI_1]
      obtain ⟨I', f1, f2, f3, f4⟩ := ih (k + 1) (am_u I 28 k (-1)) (by omega) (by omega)
      refine ⟨I', f1, fun j j1 j2 => ?_, fun j j1 => ?_, fun a j ha => ?_⟩
      · by_cases hj : j = k
        · subst hj
          rw [f3 j (by omega)]
          simp [am_u]
        · exact f2 j (by omega) j2
      · rw [f3 j (by omega)]
        unfold am_u
        rw [if_neg (by omega)]
      · rw [f4 a j ha]
        unfold am_u
        rw [if_neg (by omega)]
theorem x_weigh_in (hD : q_ok D) (h0 : q_RX I0 D) (hc : q_wc n J T D w I0) {q : Nat} (q1 : 1 ≤ q) (q2 : q ≤ q_R D) {k15 : (Nat → Nat → Int32) → (Nat → Nat → Int64) → Nat → Int32 → Option (Nat → Nat → Int32)} : ∀ (m r : Nat) (I : Nat → Nat → Int32), r ≤ q_R D → q_R D - r < m → q_wf I0 I → q_cc I D → ∃ I', f_X7_weigh_29 n k15 m I J T (nI q) (nI r) = k15 I' J T (nI (q + 1)) ∧ q_wf I0 I' ∧ q_cc I' D ∧ (∀ i, r ≤ i → i < q_R D → I' 29 (q * 6 + i) = nI (w i q)) ∧ ∀ c, ¬ (q * 6 + r ≤ c ∧ c < q * 6 + 6) → I' 29 c = I 29 c := by
  have hR := hD.1.2.1
  intro m
  induction m with
  | zero => intro r I _ h; omega
  | succ m ih =>
    intro r I hr hm hf hcc
    have hx := hf.R h0
    rw [f_X7_weigh_29, hx.1.2.1]
    by_cases e : r = q_R D
    · subst e
      rw [if_pos (Int32.le_refl _), nI_1]
      exact ⟨I, rfl, hf, hcc, fun i a b => by omega, fun _ _ => rfl⟩
    · obtain ⟨I1, e1, e2, e3, e4⟩ := hc I hf hcc r q (by omega) q1 q2
      have e6 : nI q * 6 + nI r = nI (q * 6 + r) := by
        rw [show (6 : Int32) = nI 6 from rfl, pk_mul, nI_add]
      rw [if_neg (nI_ge (by omega) (by omega)), e1, Option.bind_some, e6, if_pos (q_ix (by omega) (by omega)), q_cl (by omega), nI_1]
      obtain ⟨I', f1, f2, f3, f4, f5⟩ := ih (r + 1) (am_u I1 29 (q * 6 + r) (nI (w r q))) (by omega) (by omega) (fun a c h => by
        rw [← e2 a c h]
        unfold am_u
        rw [if_neg (fun z => h (by omega))]) (fun S hS => e3 S hS)
      refine ⟨I', f1, f2, f3, fun i i1 i2 => ?_, fun c hc2 => ?_⟩
      · by_cases hi : i = r
        · subst hi
          rw [f5 _ (by omega)]
          simp [am_u]
        · exact f4 i (by omega) i2
      · rw [f5 c (by omega), ← e4 c]
        unfold am_u
        rw [if_neg (by omega)]
theorem x_weigh_out (hn : 300 ≤ n) (hD : q_ok D) (h0 : q_RX I0 D) (hc : q_wc n J T D w I0) {f : Nat} (hf1 : 1 ≤ f) : ∀ (m q : Nat) (I : Nat → Nat → Int32), f ≤ q → q ≤ q_R D + 1 → q_R D + 1 - q < m → q_wf I0 I → q_cc I D → (∀ p, f ≤ p → p < q → ∀ r, r < q_R D → I 29 (p * 6 + r) = nI (w r p)) → ∃ I', f_X7_weigh_15 n m I J T (nI q) = some I' ∧ q_wf I0 I' ∧ q_cc I' D ∧ q_WX I' (q_R D) f w := by
  have hR := hD.1.2.1
  intro m
  induction m with
  | zero => intro q I _ _ h; omega
  | succ m ih =>
    intro q I h1 h2 hm hf hcc hp
    have hx := hf.R h0
    rw [f_X7_weigh_15, hx.1.2.1]
    by_cases e : q = q_R D + 1
    · subst e
      rw [if_pos (nI_lt (by omega) (by omega))]
      exact ⟨I, rfl, hf, hcc, fun p p1 p2 r hr => hp p p1 (by omega) r hr⟩
    · obtain ⟨I1, e1, e2, e3, e4, e5⟩ := x_weigh_in (n := n) hD h0 hc (q := q) (by omega) (by omega) (k15 := f_X7_weigh_15 n m) n 0 I (Nat.zero_le _) (by omega) hf hcc
      have e1' : f_X7_weigh_29 n (f_X7_weigh_15 n m) n I J T (nI q) 0 = f_X7_weigh_15 n m I1 J T (nI (q + 1)) := e1
      rw [if_neg (nI_nlt (by omega) (by omega)), e1']
      refine ih (q + 1) I1 (by omega) (by omega) (by omega) e2 e3 (fun p p1 p2 r hr => ?_)
      by_cases hpq : p = q
      · subst hpq
        exact e4 r (Nat.zero_le _) hr
      · rw [e5 _ (by omega)]
        exact hp p p1 (by omega) r hr
theorem x_weigh {I : Nat → Nat → Int32} (hn : 300 ≤ n) (hD : q_ok D) (h : q_RX I D) {k f : Nat} (hc : q_wc n J T D w (am_u I 27 2 (nI k))) (hf1 : 1 ≤ f) (hf2 : f ≤ q_R D + 1) : ∃ I', f_X7_weigh n I J T (nI k) (nI f) = some I' ∧ q_wf (am_u I 27 2 (nI k)) I' ∧ q_cc I' D ∧ q_WX I' (q_R D) f w ∧ I' 27 2 = nI k ∧ q_RX I' D := by
  have hR := hD.1.2.1
  have h0 : q_RX (am_u I 27 2 (nI k)) D := h.of3 (fun a k _ _ => by unfold am_u; rw [if_neg (by omega)])
  obtain ⟨I1, e1, e2, e3, e4⟩ := x_fill_loop (n := n) (J := J) (T := T) n 0 (am_u I 27 2 (nI k)) (by omega) (by omega)
  have e1' : f_J7_fill_53178 n (am_u I 27 2 (nI k)) J T (-1) = some I1 := e1
  obtain ⟨I', f1, f2, f3, f4⟩ := x_weigh_out (n := n) hn hD h0 hc hf1 n f I1 (Nat.le_refl _) hf2 (by omega) (fun a c ha => e4 a c (by omega)) (fun S hS => Or.inl (e2 S (Nat.zero_le _) hS)) (fun p p1 p2 => by omega)
  unfold f_X7_weigh
  rw [e1', Option.bind_some, f1]
  refine ⟨I', rfl, f2, f3, f4, ?_, f2.R h0⟩
  rw [f2 27 2 (by omega)]
  simp [am_u]
/-- the weights of the laws that have no rule -/
def q_w2 (D : q_Rd) (k r _m : Nat) : Nat := if k = 2 then q_cost D (2 ^ r) else 0
theorem x_wc2 (hn : 300 ≤ n) (hD : q_ok D) (h0 : q_RX I0 D) {k : Nat} (hk : k < 3) (hl : I0 27 2 = nI k) : q_wc n J T D (q_w2 D k) I0 := by
  have hR := hD.1.2.1
  intro I hf hcc r m hr m1 m2
  have hx := hf.R h0
  have hl2 : I 27 2 = nI k := by rw [hf 27 2 (by omega)]; exact hl
  have e3 : nI k < 3 := nI_lt (b := 3) hk (by omega)
  obtain ⟨z1, z2⟩ := q_shl6 r (by omega)
  unfold f_X7_weightOf
  rw [hl2, if_pos e3]
  by_cases k2 : k = 2
  · subst k2
    obtain ⟨I', e1, e2, e3, e4⟩ := x_costOf (n := n) (J := J) (T := T) hn hD hx hcc (S := 2 ^ r) z2
    rw [if_pos (show nI 2 = 2 from rfl), z1, e1, Option.bind_some]
    exact ⟨I', rfl, fun a c h => by rw [e4 a c (by omega)]; exact hf a c h, e2, fun c => e4 29 c (by omega)⟩
  · have e2 : ¬ nI k = 2 := fun z => k2 ((nI_eq (b := 2) (by omega) (by omega)).mp z)
    rw [if_neg e2]
    refine ⟨I, ?_, hf, hcc, fun _ => rfl⟩
    unfold q_w2
    rw [if_neg k2, nI_0]
end QW
