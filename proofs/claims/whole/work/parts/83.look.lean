/-! ===== reading a text: the reference's cursor ===== -/
def q_MT (I : Nat → Nat → Int32) (T : Nat) (t : q_Tx) : Prop := ∃ o, I 53 8 = nI o ∧ I 53 9 = nI t.1 ∧ ((T = 54 ∧ o + t.1 ≤ 160 ∧ ∀ i, i < t.1 → I 54 (o + i) = q_by (t.2 i)) ∨ (T = 55 ∧ o + t.1 ≤ 640 ∧ ∀ i, i < t.1 → I 55 (o + i) = q_by (t.2 i)))
def q_MC (I : Nat → Nat → Int32) (T : Nat) (t : q_Tx) (a : Nat) (f : Int32) : Prop := q_MT I T t ∧ I 53 10 = nI a ∧ I 53 11 = f
theorem q_MT.of {I I' : Nat → Nat → Int32} {T : Nat} {t : q_Tx} (h : q_MT I T t) (e1 : I' 53 8 = I 53 8) (e2 : I' 53 9 = I 53 9) (e : ∀ x y, (x = 54 ∨ x = 55) → I' x y = I x y) : q_MT I' T t := by
  obtain ⟨o, h1, h2, h3⟩ := h
  refine ⟨o, by rw [e1]; exact h1, by rw [e2]; exact h2, ?_⟩
  rcases h3 with ⟨a, b, c⟩ | ⟨a, b, c⟩
  · exact Or.inl ⟨a, b, fun i hi => by rw [e 54 _ (Or.inl rfl)]; exact c i hi⟩
  · exact Or.inr ⟨a, b, fun i hi => by rw [e 55 _ (Or.inr rfl)]; exact c i hi⟩
theorem q_MC.at {I : Nat → Nat → Int32} {T : Nat} {t : q_Tx} {a : Nat} {f : Int32} (h : q_MC I T t a f) (b : Nat) : q_MC (am_u I 53 10 (nI b)) T t b f := ⟨h.1.of (by simp [am_u]) (by simp [am_u]) (fun x y hx => by unfold am_u; rw [if_neg (by omega)]), by simp [am_u], by unfold am_u; rw [if_neg (by omega)]; exact h.2.2⟩
theorem q_MC.wr {I : Nat → Nat → Int32} {T : Nat} {t : q_Tx} {a : Nat} {f : Int32} (h : q_MC I T t a f) (g : Int32) : q_MC (am_u I 53 11 g) T t a g := ⟨h.1.of (by simp [am_u]) (by simp [am_u]) (fun x y hx => by unfold am_u; rw [if_neg (by omega)]), by unfold am_u; rw [if_neg (by omega)]; exact h.2.1, by simp [am_u]⟩
theorem q_MC.of {I I' : Nat → Nat → Int32} {T : Nat} {t : q_Tx} {a : Nat} {f : Int32} (h : q_MC I T t a f) (e1 : ∀ y, 8 ≤ y → y ≤ 11 → I' 53 y = I 53 y) (e : ∀ x y, (x = 54 ∨ x = 55) → I' x y = I x y) : q_MC I' T t a f := ⟨h.1.of (e1 8 (by omega) (by omega)) (e1 9 (by omega) (by omega)) e, by rw [e1 10 (by omega) (by omega)]; exact h.2.1, by rw [e1 11 (by omega) (by omega)]; exact h.2.2⟩
/-- what reading leaves alone -/
def q_mk (I I' : Nat → Nat → Int32) : Prop := ∀ x y, ¬ (x = 53 ∧ (y = 10 ∨ y = 11)) → I' x y = I x y
theorem q_mk.r (I : Nat → Nat → Int32) : q_mk I I := fun _ _ _ => rfl
theorem q_mk.t {I I' I2 : Nat → Nat → Int32} (h : q_mk I I') (h2 : q_mk I' I2) : q_mk I I2 := fun x y z => by rw [h2 x y z]; exact h x y z
theorem q_mk.a (I : Nat → Nat → Int32) (v : Int32) : q_mk I (am_u I 53 10 v) := fun x y z => by unfold am_u; rw [if_neg (by omega)]
theorem q_mk.w (I : Nat → Nat → Int32) (v : Int32) : q_mk I (am_u I 53 11 v) := fun x y z => by unfold am_u; rw [if_neg (by omega)]
section QW
variable {n : Nat} {J : Nat → Nat → Int64} {T : Nat} {t : q_Tx}
theorem m_look43 (ht : q_tok t) {a : Nat} {f : Int32} {I : Nat → Nat → Int32} (ha : a ≤ t.1) (h : q_MC I T t a f) : f_X12_look_43 n I J T = some (q_sg (q_pk t a), I) := by
  have h160 := ht.1
  obtain ⟨⟨o, h8, h9, hT⟩, h10, -⟩ := h
  unfold f_X12_look_43
  rw [h9, h10, h8]
  by_cases e : a < t.1
  · have hb := ht.2 a e
    have hp : q_pk t a = t.2 a := by unfold q_pk; rw [if_pos e]
    have hs : q_sg (q_pk t a) = nI (t.2 a) := by unfold q_sg; rw [hp, if_neg (by omega)]
    rw [if_neg (nI_ge e (by omega)), nI_add, hs]
    rcases hT with ⟨rfl, hb1, hc⟩ | ⟨rfl, hb1, hc⟩
    · have hix : ok_ix (nI (o + a)) 160 := q_ix (by omega) (by omega)
      have hcl : (nI (o + a)).toNatClampNeg = o + a := q_cl (by omega)
      rw [if_pos rfl, if_pos hix, hcl, hc a e, q_by_and _ hb.2]
    · have hix : ok_ix (nI (o + a)) 640 := q_ix (by omega) (by omega)
      have hcl : (nI (o + a)).toNatClampNeg = o + a := q_cl (by omega)
      rw [if_neg (by decide), if_pos rfl, if_pos hix, hcl, hc a e, q_by_and _ hb.2]
  · have hp : q_pk t a = 0 := by unfold q_pk; rw [if_neg e]
    rw [if_pos (nI_le (by omega) (by omega)), hp]
    rfl
theorem m_look_loop (ht : q_tok t) : ∀ (m a : Nat) (f : Int32) (I : Nat → Nat → Int32), a ≤ t.1 → t.1 - a < m → q_MC I T t a f → ∃ I', f_X12_look_0 n m I J T = some (q_sg (q_pk t (q_sk t a)), I') ∧ q_MC I' T t (q_sk t a) f ∧ q_mk I I' := by
  intro m
  induction m with
  | zero => intro a f I _ h; omega
  | succ m ih =>
    intro a f I ha hm h
    have h160 := ht.1
    have h43 := m_look43 (n := n) (J := J) ht ha h
    obtain ⟨⟨o, h8, h9, hT⟩, h10, h11⟩ := id h
    rw [f_X12_look_0]
    simp only [h9, h10, h8]
    by_cases e : a < t.1
    · have hb := ht.2 a e
      have h32 := q_by_32 (t.2 a) hb.2
      rw [beq_iff_eq, decide_eq_decide] at h32
      have main : ∃ I', (if q_by (t.2 a) = 32 then f_X12_look_0 n m (am_u I 53 10 (nI a + 1)) J T else f_X12_look_43 n I J T) = some (q_sg (q_pk t (q_sk t a)), I') ∧ q_MC I' T t (q_sk t a) f ∧ q_mk I I' := by
        by_cases hbl : t.2 a = 32
        · rw [if_pos (h32.mpr hbl), q_skf_s ⟨e, hbl⟩, nI_1]
          obtain ⟨I', f1, f2, f3⟩ := ih (a + 1) f (am_u I 53 10 (nI (a + 1))) (by omega) (by omega) (h.at (a + 1))
          exact ⟨I', f1, f2, (q_mk.a I _).t f3⟩
        · rw [if_neg (fun z => hbl (h32.mp z)), q_skf_0 (fun z => hbl z.2), h43]
          exact ⟨I, rfl, h, q_mk.r I⟩
      rw [if_neg (nI_ge e (by omega)), nI_add]
      rcases hT with ⟨rfl, hb1, hc⟩ | ⟨rfl, hb1, hc⟩
      · have hix : ok_ix (nI (o + a)) 160 := q_ix (by omega) (by omega)
        have hcl : (nI (o + a)).toNatClampNeg = o + a := q_cl (by omega)
        rw [if_pos rfl, if_pos hix, hcl, hc a e]
        exact main
      · have hix : ok_ix (nI (o + a)) 640 := q_ix (by omega) (by omega)
        have hcl : (nI (o + a)).toNatClampNeg = o + a := q_cl (by omega)
        rw [if_neg (by decide), if_pos rfl, if_pos hix, hcl, hc a e]
        exact main
    · rw [if_pos (nI_le (by omega) (by omega)), q_skf_0 (fun z => e z.1), h43]
      exact ⟨I, rfl, h, q_mk.r I⟩
theorem m_look (hn : 300 ≤ n) (ht : q_tok t) {a : Nat} {f : Int32} {I : Nat → Nat → Int32} (ha : a ≤ t.1) (h : q_MC I T t a f) : ∃ I', f_X12_look n I J T = some (q_sg (q_pk t (q_sk t a)), I') ∧ q_MC I' T t (q_sk t a) f ∧ q_mk I I' := m_look_loop ht n a f I ha (by have := ht.1; omega) h
theorem m_dig (ht : q_tok t) {a : Nat} {f : Int32} {I : Nat → Nat → Int32} (ha : a ≤ t.1) (h : q_MC I T t a f) : f_X12_isDigit n I J T = some (if q_dig t a = true then 1 else 0) := by
  have h160 := ht.1
  obtain ⟨⟨o, h8, h9, hT⟩, h10, h11⟩ := h
  unfold f_X12_isDigit q_dig
  rw [h9, h10, h8]
  by_cases e : a < t.1
  · have hb := ht.2 a e
    have hd := q_by_dig (t.2 a) hb.2
    rw [beq_iff_eq] at hd
    have main : (if q_by (t.2 a) < 48 then some (0 : Int32) else if 57 < q_by (t.2 a) then some 0 else some 1) = some (if (decide (a < t.1) && (decide (48 ≤ t.2 a) && decide (t.2 a ≤ 57))) = true then 1 else 0) := by
      rw [decide_eq_true e, Bool.true_and, ← hd]
      by_cases h1 : q_by (t.2 a) < 48
      · rw [if_pos h1, decide_eq_true h1]
        rfl
      · rw [if_neg h1, decide_eq_false h1]
        by_cases h2 : 57 < q_by (t.2 a)
        · rw [if_pos h2, decide_eq_true h2]
          rfl
        · rw [if_neg h2, decide_eq_false h2]
          rfl
    rw [if_neg (nI_ge e (by omega)), nI_add]
    rcases hT with ⟨rfl, hb1, hc⟩ | ⟨rfl, hb1, hc⟩
    · have hix : ok_ix (nI (o + a)) 160 := q_ix (by omega) (by omega)
      have hcl : (nI (o + a)).toNatClampNeg = o + a := q_cl (by omega)
      rw [if_pos rfl, if_pos hix, if_pos rfl, if_pos hix, hcl, hc a e]
      exact main
    · have hix : ok_ix (nI (o + a)) 640 := q_ix (by omega) (by omega)
      have hcl : (nI (o + a)).toNatClampNeg = o + a := q_cl (by omega)
      have n54 : ¬ (55 : Nat) = 54 := by decide
      rw [if_neg n54, if_pos rfl, if_pos hix, if_neg n54, if_pos rfl, if_pos hix, hcl, hc a e]
      exact main
  · rw [if_pos (nI_le (by omega) (by omega)), decide_eq_false e]
    rfl
theorem m_here (ht : q_tok t) {a : Nat} {f : Int32} {I : Nat → Nat → Int32} (ha : a ≤ t.1) (h : q_MC I T t a f) : f_X12_here n I J T = some (q_sg (q_pk t a)) := by
  have e := m_look43 (n := n) (J := J) ht ha h
  have key : ∀ o : Option Int32, (o.bind fun v => some (v, I)) = some (q_sg (q_pk t a), I) → o = some (q_sg (q_pk t a)) := fun o ho => by
    cases o with
    | none => cases ho
    | some v =>
      rw [Option.bind_some] at ho
      have := Option.some.inj ho
      rw [(Prod.mk.inj this).1]
  apply key
  rw [← e]
  unfold f_X12_here f_X12_look_43
  split
  · rfl
  · split
    · split <;> rfl
    · split
      · split <;> rfl
      · rfl
theorem m_fails {a : Nat} {I : Nat → Nat → Int32} (h : q_MC I T t a (-1)) : f_X12_fails n I J T = some (0, am_u I 53 11 (nI a)) := by
  unfold f_X12_fails
  rw [if_pos h.2.2, h.2.1]
theorem m_number (hn : 300 ≤ n) (ht : q_tok t) {a lo hi : Nat} (hlo : lo < 200) (hhi : hi < 200) {I : Nat → Nat → Int32} (ha : a < t.1) (h : q_MC I T t a (-1)) : ∃ v I', f_X12_number n I J T (nI lo) (nI hi) = some (v, I') ∧ q_mk I I' ∧ match q_num t lo hi (a + 1) with
    | .inl f => I' 53 11 = nI f
    | .inr r => v = nI r.2 ∧ q_MC I' T t r.1 (-1) := by
  have h160 := ht.1
  obtain ⟨I1, e1, e2, e3⟩ := m_look (n := n) (J := J) hn ht (show a + 1 ≤ t.1 from ha) (h.at (a + 1))
  have hs := q_sk_le (t := t) (a := a + 1) ha
  have hk1 : q_mk I I1 := (q_mk.a I _).t e3
  unfold f_X12_number
  rw [h.2.1, nI_1, e1, Option.bind_some]
  simp only []
  rw [m_dig ht hs.2 e2, Option.bind_some]
  unfold q_num
  by_cases d1 : q_dig t (q_sk t (a + 1)) = true
  · obtain ⟨g1, g2, g3, g4⟩ := q_dig_pk d1
    have hsg : q_sg (q_pk t (q_sk t (a + 1))) = nI (t.2 (q_sk t (a + 1))) := by unfold q_sg; rw [g4, if_neg (by omega)]
    have ev : nI (t.2 (q_sk t (a + 1))) - 48 = nI (t.2 (q_sk t (a + 1)) - 48) := by
      rw [show (48 : Int32) = nI 48 from rfl, pk_sub (by omega)]
    have eA := e2.at (q_sk t (a + 1) + 1)
    have hdl1 : q_dl t 2 (q_sk t (a + 1)) 0 = q_dl t 1 (q_sk t (a + 1) + 1) (t.2 (q_sk t (a + 1)) - 48) := by
      show (if q_dig t (q_sk t (a + 1)) = true then _ else _) = _
      rw [if_pos d1, Nat.zero_mul, Nat.zero_add]
    -- the end of a number that stops at b with v
    have fin : ∀ (I2 : Nat → Nat → Int32) (b v : Nat), v < 2 ^ 20 → q_sk t (a + 1) < b → b ≤ t.1 → q_mk I I2 → q_MC I2 T t b (-1) → q_dl t 2 (q_sk t (a + 1)) 0 = (b, v) → ∃ w I', f_X12_number_77 n I2 J T (nI lo) (nI hi) (nI v) = some (w, I') ∧ q_mk I I' ∧ match (if (q_dl t 2 (q_sk t (a + 1)) 0).1 = q_sk t (a + 1) ∨ q_dig t (q_dl t 2 (q_sk t (a + 1)) 0).1 = true then (.inl (q_dl t 2 (q_sk t (a + 1)) 0).1 : Nat ⊕ (Nat × Nat)) else if lo ≤ (q_dl t 2 (q_sk t (a + 1)) 0).2 ∧ (q_dl t 2 (q_sk t (a + 1)) 0).2 ≤ hi then .inr (q_dl t 2 (q_sk t (a + 1)) 0) else .inl ((q_dl t 2 (q_sk t (a + 1)) 0).1 - 1)) with
        | .inl f => I' 53 11 = nI f
        | .inr r => w = nI r.2 ∧ q_MC I' T t r.1 (-1) := by
      intro I2 b v hv hb1 hb2 hk2 hM2 hdl
      rw [hdl]
      unfold f_X12_number_77
      rw [m_dig ht hb2 hM2, Option.bind_some]
      by_cases d3 : q_dig t b = true
      · rw [if_pos d3, if_neg (by exact q_10), m_fails hM2, Option.bind_some, if_pos (show (b, v).1 = q_sk t (a + 1) ∨ q_dig t (b, v).1 = true from Or.inr d3)]
        exact ⟨_, _, rfl, hk2.t (q_mk.w I2 _), (hM2.wr _).2.2⟩
      · rw [if_neg d3, if_pos rfl, if_neg (show ¬ ((b, v).1 = q_sk t (a + 1) ∨ q_dig t (b, v).1 = true) from fun z => by
          rcases z with z | z
          · have z' : b = q_sk t (a + 1) := z
            omega
          · exact d3 z)]
        rw [nI_l (by omega), nI_l (by omega), nI_l (by omega)]
        have hin : f_X12_isIn n I2 J T (lN v) (lN lo) (lN hi) = some (if lo ≤ v ∧ v ≤ hi then 1 else 0) := by
          unfold f_X12_isIn
          have c1 : (lg_cmp (lN v) (lN lo) < 0) ↔ v < lo := by
            rw [lg_cmp_lt, zL_n, zL_n, zL_lt (by omega) (by omega) (by omega) (by omega)]
            omega
          have c2 : (0 < lg_cmp (lN v) (lN hi)) ↔ hi < v := by
            rw [lg_cmp_gt, zL_n, zL_n, zL_lt (by omega) (by omega) (by omega) (by omega)]
            omega
          by_cases z1 : v < lo
          · rw [if_pos (c1.mpr z1), if_neg (by omega)]
          · rw [if_neg (fun z => z1 (c1.mp z))]
            by_cases z2 : hi < v
            · rw [if_pos (c2.mpr z2), if_neg (by omega)]
            · rw [if_neg (fun z => z2 (c2.mp z)), if_pos (by omega)]
        rw [hin, Option.bind_some]
        by_cases c : lo ≤ v ∧ v ≤ hi
        · rw [if_pos c, if_neg (by exact q_10), if_pos (show lo ≤ (b, v).2 ∧ (b, v).2 ≤ hi from c)]
          exact ⟨_, I2, rfl, hk2, rfl, hM2⟩
        · have em : nI b - 1 = nI (b - 1) := by rw [show (1 : Int32) = nI 1 from rfl, pk_sub (by omega)]
          have hMb := hM2.at (b - 1)
          rw [if_neg c, if_pos rfl, if_neg (show ¬ (lo ≤ (b, v).2 ∧ (b, v).2 ≤ hi) from c), hM2.2.1, em, m_fails hMb, Option.bind_some]
          exact ⟨_, _, rfl, (hk2.t (q_mk.a I2 _)).t (q_mk.w _ _), (hMb.wr _).2.2⟩
    rw [if_pos d1, if_neg (by exact q_10), e2.2.1, nI_1, hsg, ev, m_dig ht (show q_sk t (a + 1) + 1 ≤ t.1 from g1) eA, Option.bind_some]
    by_cases d2 : q_dig t (q_sk t (a + 1) + 1) = true
    · obtain ⟨k1, k2, k3, k4⟩ := q_dig_pk d2
      have hsg2 : q_sg (q_pk t (q_sk t (a + 1) + 1)) = nI (t.2 (q_sk t (a + 1) + 1)) := by unfold q_sg; rw [k4, if_neg (by omega)]
      have ev2 : 10 * nI (t.2 (q_sk t (a + 1)) - 48) + nI (t.2 (q_sk t (a + 1) + 1)) - 48 = nI ((t.2 (q_sk t (a + 1)) - 48) * 10 + (t.2 (q_sk t (a + 1) + 1) - 48)) := by
        rw [show (10 : Int32) * nI (t.2 (q_sk t (a + 1)) - 48) = nI (10 * (t.2 (q_sk t (a + 1)) - 48)) from pk_mul 10 _, nI_add, show (48 : Int32) = nI 48 from rfl, pk_sub (by omega)]
        congr 1
        omega
      rw [if_pos d2, if_neg (by exact q_10), m_here ht (show q_sk t (a + 1) + 1 ≤ t.1 from g1) eA, Option.bind_some, hsg2, ev2, nI_1]
      have hdl2 : q_dl t 2 (q_sk t (a + 1)) 0 = (q_sk t (a + 1) + 1 + 1, (t.2 (q_sk t (a + 1)) - 48) * 10 + (t.2 (q_sk t (a + 1) + 1) - 48)) := by
        rw [hdl1]
        show (if q_dig t (q_sk t (a + 1) + 1) = true then _ else _) = _
        rw [if_pos d2]
        rfl
      exact fin _ (q_sk t (a + 1) + 1 + 1) _ (by omega) (by omega) (by omega) ((hk1.t (q_mk.a I1 _)).t (q_mk.a _ _)) (eA.at _) hdl2
    · rw [if_neg d2, if_pos rfl]
      have hdl2 : q_dl t 2 (q_sk t (a + 1)) 0 = (q_sk t (a + 1) + 1, t.2 (q_sk t (a + 1)) - 48) := by
        rw [hdl1]
        show (if q_dig t (q_sk t (a + 1) + 1) = true then _ else _) = _
        rw [if_neg d2]
      exact fin _ (q_sk t (a + 1) + 1) _ (by omega) (by omega) (by omega) (hk1.t (q_mk.a I1 _)) eA hdl2
  · have hdl : q_dl t 2 (q_sk t (a + 1)) 0 = (q_sk t (a + 1), 0) := by
      show (if q_dig t (q_sk t (a + 1)) = true then _ else _) = _
      rw [if_neg d1]
    rw [if_neg d1, if_pos rfl, m_fails e2, Option.bind_some, hdl, if_pos (Or.inl rfl)]
    exact ⟨_, _, rfl, hk1.t (q_mk.w I1 _), (e2.wr _).2.2⟩
end QW
