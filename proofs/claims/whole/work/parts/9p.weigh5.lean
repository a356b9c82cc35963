/-! ===== the weights of every law ===== -/
def q_wt (U : Nat × (Nat → Nat) × (Nat → Nat → Nat)) (D : q_Rd) (k : Nat) : Nat → Nat → Nat := if k < 3 then q_w2 D k else q_w3 D (q_Lu U (k - 3))
/-- every rule kept can be read -/
def q_prs (U : Nat × (Nat → Nat) × (Nat → Nat → Nat)) : Prop := ∀ u, u < U.1 → ∃ r, q_rule (U.2.1 u, U.2.2 u) = .inr r
section QW
variable {n : Nat} {J : Nat → Nat → Int64} {T : Nat} {D : q_Rd} {I0 : Nat → Nat → Int32} {U : Nat × (Nat → Nat) × (Nat → Nat → Nat)}
theorem q_UX.prs (h : q_UX q_Vr I0 U) : q_prs U := fun u hu => by
  obtain ⟨r, h1, -⟩ := h.2 u hu
  exact ⟨r, h1⟩
theorem x_wt (hn : 300 ≤ n) (hD : q_ok D) (h0 : q_RX I0 D) (hU : q_UX q_Vr I0 U) (hu4 : U.1 ≤ 4) {k : Nat} (hk : k < 3 + U.1) (hl : I0 27 2 = nI k) : q_wc n J T D (q_wt U D k) I0 := by
  unfold q_wt
  by_cases h : k < 3
  · rw [if_pos h]; exact x_wc2 hn hD h0 h hl
  · rw [if_neg h]; exact x_wc3 hn hD h0 hU hu4 (by omega) (by omega) hl
theorem m_wt (hn : 300 ≤ n) (hD : q_ok D) (h0 : q_RM I0 D) (hU : q_UM I0 U) (hok : q_uok U) (hp : q_prs U) {k : Nat} (h2 : 2 ≤ k) (hk : k < 3 + U.1) : q_mc n D (q_wt U D k) k I0 := by
  unfold q_wt
  by_cases h : k < 3
  · have e : k = 2 := by omega
    subst e
    rw [if_pos h]; exact m_wc2 hn hD h0
  · rw [if_neg h]; exact m_wc3 hn hD h0 hU hok (by omega) (by omega) (hp _ (by omega))
theorem q_wt_ok (hD : q_ok D) (k : Nat) : q_wok (q_R D) (q_wt U D k) := by
  unfold q_wt
  by_cases h : k < 3
  · rw [if_pos h]; exact q_w2_ok hD k
  · rw [if_neg h]
    intro r m _
    have := (q_w3_e D (q_Lu U (k - 3)) r m).2
    omega
end QW
section QS
variable {n B : Nat} {I I2 : Nat → Nat → Int32} {J J2 : Nat → Nat → Int64} {T : Nat} {s : q_Sg}
/-- the forms in which the calls ask for them -/
theorem x_wtX (hn : 300 ≤ n) (hs : q_sok B s) (hX : q_HX q_Vr I J s) : ∀ k, k < 3 + (q_sU s).1 → q_wc n J T (q_sD s) (q_wt (q_sU s) (q_sD s) k) (am_u I 27 2 (nI k)) := fun k hk => by
  refine x_wt hn hs.1.1 (hX.1.of3 (fun a c _ _ => by unfold am_u; rw [if_neg (by omega)])) (hX.2.2.1.of hs.2.2.1.1 (by unfold am_u; rw [if_neg (by omega)]) (fun a c _ _ => by unfold am_u; rw [if_neg (by omega)])) hs.2.2.1.1 hk (by simp [am_u])
theorem m_wtM (hn : 300 ≤ n) (hs : q_sok B s) (hp : q_prs (q_sU s)) : ∀ k, k < 3 + (q_sU s).1 → ∀ s0 I0 J0, q_sU s0 = q_sU s → q_sD s0 = q_sD s → q_HM I0 J0 s0 → 2 ≤ k → q_mc n (q_sD s) (q_wt (q_sU s) (q_sD s) k) k I0 := fun k hk s0 I0 J0 e1 e2 hM h2 => by
  have a := hM.1
  have b := hM.2.2.1
  rw [e2] at a
  rw [e1] at b
  exact m_wt hn hs.1.1 a b hs.2.2.1 hp h2 hk
theorem m_wtM0 (hn : 300 ≤ n) (hs : q_sok B s) (hp : q_prs (q_sU s)) (hM : q_HM I2 J2 s) : ∀ k, 2 ≤ k → k < 3 + (q_sU s).1 → q_mc n (q_sD s) (q_wt (q_sU s) (q_sD s) k) k (am_u I2 53 0 0) := fun k h2 hk => m_wtM (n := n) hn hs hp k hk s _ J2 rfl rfl (hM.th 0) h2
theorem x_wtL (hn : 300 ≤ n) (hs : q_sok B s) : ∀ k, k < 3 + (q_sU s).1 → ∀ D' I0 J0, q_dok D' → q_HX q_Vr I0 J0 (D', s.2) → q_wc n J0 T D' (q_wt (q_sU s) D' k) (am_u I0 27 2 (nI k)) := fun k hk D' I0 J0 hD' hX => by
  have a : q_RX I0 D' := hX.1
  have b : q_UX q_Vr I0 (q_sU s) := hX.2.2.1
  exact x_wt hn hD'.1 (a.of3 (fun a c _ _ => by unfold am_u; rw [if_neg (by omega)])) (b.of hs.2.2.1.1 (by unfold am_u; rw [if_neg (by omega)]) (fun a c _ _ => by unfold am_u; rw [if_neg (by omega)])) hs.2.2.1.1 hk (by simp [am_u])
theorem m_wtL (hn : 300 ≤ n) (hs : q_sok B s) (hp : q_prs (q_sU s)) : ∀ k, k < 3 + (q_sU s).1 → ∀ D' I0 J0, q_dok D' → q_HM I0 J0 (D', s.2) → 2 ≤ k → q_mc n D' (q_wt (q_sU s) D' k) k I0 := fun k hk D' I0 J0 hD' hM h2 => by
  have a : q_RM I0 D' := hM.1
  have b : q_UM I0 (q_sU s) := hM.2.2.1
  exact m_wt hn hD'.1 a b hs.2.2.1 hp h2 hk
end QS
