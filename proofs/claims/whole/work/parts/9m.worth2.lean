/-! ===== a rule's worth, the class: clause by clause ===== -/
section QW
variable {n : Nat} {J : Nat → Nat → Int64} {T : Nat} {D : q_Rd}
theorem x_wL (hn : 300 ≤ n) (hD : q_ok D) {u N r m : Nat} (hu : u < 4) (hN : N ≤ 160) (hr : r < q_R D) : ∀ (l : List (q_Vl × q_Vl)) (s : List Int32) (k i : Nat) (I : Nat → Nat → Int32), q_ckr s l → q_at I u i s → i + s.length = N → s.length < k → I 25 u = nI N → q_RX I D → q_St I [] → ∃ I', f_X5_worth_30 n k I J T (nI u) (nI r) (nI m) u (nI i) = some (am_max 0 (am_min 1000 (q_wth (q_Er D r m) l)), I') ∧ q_fst I I' := by
  intro l
  induction l with
  | nil =>
    intro s k i I h1 h2 h3 h4 h25 hX h
    have h1' : s = [] := h1
    subst h1'
    have h3' : i = N := h3
    obtain ⟨k', rfl⟩ : ∃ z, k = z + 1 := ⟨k - 1, by omega⟩
    have ew : q_wth (q_Er D r m) [] = ([] : List Int32).headD 0 := rfl
    rw [x_w30_n hu hN h25 (by omega) (by omega), ew]
    exact x_106 (n := n) (J := J) (T := T) h
  | cons c l ih =>
    intro s k i I h1 h2 h3 h4 h25 hX h
    obtain ⟨s1, s2, rfl, hk, h2r⟩ := h1
    obtain ⟨at1, at2⟩ := q_at_app h2
    rw [List.length_append] at h3 h4
    obtain ⟨cs, vs, hA, hv1, hv2⟩ := hk
    show ∃ I', _ = some (am_max 0 (am_min 1000 (if c.1 (q_Er D r m) = 0 then q_wth (q_Er D r m) l else c.2 (q_Er D r m))), I') ∧ q_fst I I'
    rcases hA with ⟨rfl, hc1, hc2⟩ | ⟨rfl, hc⟩
    · obtain ⟨atc, atq⟩ := q_at_app at1
      rw [List.length_append, List.length_cons, List.length_append, List.length_singleton] at h3 h4
      obtain ⟨kk, rfl⟩ : ∃ z, k = z + 1 + cs.length := ⟨k - 1 - cs.length, by omega⟩
      obtain ⟨I1, e1, e2, e3⟩ := x_run (n := n) (J := J) (T := T) (m := m) hn hD hu hN hr cs (kk + 1) i I [] hc1 atc (by omega) (by show 0 + cs.length ≤ 160; omega) h25 hX h
      rw [hc2] at e3
      have h25' : I1 25 u = nI N := by rw [e2 25 u (by omega) (by omega)]; exact h25
      have atq1 := atq.of hu e2
      obtain ⟨q1, q2⟩ := q_at_cons atq1
      have n59 : ¬ (10063 : Int32) = 10059 := by decide
      obtain ⟨I2, p1, p2, p3⟩ := x_pop (n := n) (J := J) (T := T) e3
      have h25'' : I2 25 u = nI N := by rw [p2 25 u (by omega) (by omega)]; exact h25'
      rw [e1, x_w30 hu hN h25' (show i + cs.length < N by omega), q1, if_neg n59, if_pos rfl, p1, Option.bind_some]
      simp only []
      have hhd : ([c.1 (q_Er D r m)] : List Int32).headD 0 = c.1 (q_Er D r m) := rfl
      rw [hhd]
      have hX2 : q_RX I2 D := hX.of3 (fun a k z1 z2 => by rw [p2 a k (by omega) (by omega)]; exact e2 a k (by omega) (by omega))
      by_cases c0 : c.1 (q_Er D r m) = 0
      · rw [if_pos c0, if_pos c0]
        have hend := x_end (n := n) (I := I2) (J := J) (T := T) hu hN h25'' (10063 :: vs) n (i + cs.length) (fun x hx => by
          rcases List.mem_cons.mp hx with z | z
          · rw [z]; exact n59
          · exact (q_sp_ne (hv1 x z)).1) (atq1.of hu p2) (by rw [List.length_cons]; omega) (by rw [List.length_cons]; omega)
        rw [List.length_cons] at hend
        unfold f_X5_clauseEnd
        rw [hend, Option.bind_some, nI_1]
        have at2' : q_at I2 u (i + cs.length + (vs.length + 1) + 1) s2 := by
          have z := (at2.of hu e2).of hu p2
          rw [List.length_append, List.length_cons, List.length_append, List.length_singleton] at z
          rw [show i + cs.length + (vs.length + 1) + 1 = i + (cs.length + (vs.length + 1 + 1)) by omega]
          exact z
        obtain ⟨I3, g1, g2⟩ := ih s2 kk (i + cs.length + (vs.length + 1) + 1) I2 h2r at2' (by omega) (by omega) h25'' hX2 p3
        exact ⟨I3, g1, (e2.t p2).t g2⟩
      · rw [if_neg c0, if_neg c0, nI_1]
        obtain ⟨atv, ate⟩ := q_at_app (q2.of hu p2)
        obtain ⟨kv, hkv⟩ : ∃ z, kk = z + 1 + vs.length := ⟨kk - 1 - vs.length, by omega⟩
        subst hkv
        obtain ⟨I3, g1, g2, g3⟩ := x_run (n := n) (J := J) (T := T) (m := m) hn hD hu hN hr vs (kv + 1) (i + cs.length + 1) I2 [] hv1 atv (by omega) (by show 0 + vs.length ≤ 160; omega) h25'' hX2 p3
        rw [hv2] at g3
        have h253 : I3 25 u = nI N := by rw [g2 25 u (by omega) (by omega)]; exact h25''
        obtain ⟨I4, y1, y2⟩ := x_106 (n := n) (J := J) (T := T) g3
        rw [g1, x_w30 hu hN h253 (show i + cs.length + 1 + vs.length < N by omega), (q_at_cons (ate.of hu g2)).1, if_pos rfl]
        exact ⟨I4, y1, ((e2.t p2).t g2).t y2⟩
    · obtain ⟨atv, ate⟩ := q_at_app at1
      rw [List.length_append, List.length_singleton] at h3 h4
      obtain ⟨kv, rfl⟩ : ∃ z, k = z + 1 + vs.length := ⟨k - 1 - vs.length, by omega⟩
      obtain ⟨I3, g1, g2, g3⟩ := x_run (n := n) (J := J) (T := T) (m := m) hn hD hu hN hr vs (kv + 1) i I [] hv1 atv (by omega) (by show 0 + vs.length ≤ 160; omega) h25 hX h
      rw [hv2] at g3
      have h253 : I3 25 u = nI N := by rw [g2 25 u (by omega) (by omega)]; exact h25
      obtain ⟨I4, y1, y2⟩ := x_106 (n := n) (J := J) (T := T) g3
      have c1 : ¬ c.1 (q_Er D r m) = 0 := by rw [hc]; exact q_10
      rw [g1, x_w30 hu hN h253 (show i + vs.length < N by omega), (q_at_cons (ate.of hu g2)).1, if_pos rfl, if_neg c1]
      exact ⟨I4, y1, g2.t y2⟩
/-- a rule's worth by the class -/
theorem x_worth (hn : 300 ≤ n) (hD : q_ok D) {u U r m : Nat} (hu : u < U) (hU : U ≤ 4) (hr : r < q_R D) {I : Nat → Nat → Int32} {len : Nat} {bytes : Nat → Nat} {s : List Int32} {l : List (q_Vl × q_Vl)} (hq : q_rule (len, bytes) = .inr (s, l)) (h19 : I 19 4 = nI U) (hN : s.length ≤ 160) (h25 : I 25 u = nI s.length) (hc : ∀ i, i < s.length → I (21 + u) i = s.getD i 0) (hX : q_RX I D) : ∃ I', f_X5_worth n I J T (nI u) (nI r) (nI m) = some (am_max 0 (am_min 1000 (q_wth (q_Er D r m) l)), I') ∧ q_fst I I' := by
  have hck := q_rule_ck hq
  have hix : ok_ix (nI u) 4 := q_ix (by omega) (by omega)
  have hcl : (nI u).toNatClampNeg = u := q_cl (by omega)
  obtain ⟨I0, hI0⟩ : ∃ z, z = am_u I 19 3 0 := ⟨_, rfl⟩
  have h0 : q_fst I I0 := fun x y z1 z2 => by rw [hI0]; unfold am_u; rw [if_neg z1]
  obtain ⟨I', e1, e2⟩ := x_wL (n := n) (J := J) (T := T) (m := m) hn hD (show u < 4 by omega) hN hr l s n 0 I0 hck (fun j hj => by rw [Nat.zero_add, h0 _ _ (by omega) (by omega)]; exact hc j hj) (by omega) (by omega) (by rw [h0 25 u (by omega) (by omega)]; exact h25) (hX.of3 (fun a k z1 z2 => h0 a k (by omega) (by omega))) ⟨by rw [hI0]; simp [am_u]; rfl, by show 0 ≤ 160; omega, fun i hi => absurd hi (Nat.not_lt_zero _)⟩
  have e1' : f_X5_worth_30 n n I0 J T (nI u) (nI r) (nI m) u 0 = _ := e1
  unfold f_X5_worth
  rw [if_neg (show ¬ nI u < (0 : Int32) from nI_nlt (b := 0) (by omega) (by omega)), h19, if_pos (nI_lt hu (by omega)), if_pos hix, hcl, ← hI0, e1']
  exact ⟨I', rfl, h0.t e2⟩
end QW
