/-! ===== a road's text: what it tells; the class reads items and clauses ===== -/
/-- which item of a kind (0 way, 1 rider, 2 coach) a sign begins; 3: none -/
def q_itm (kind p : Nat) : Nat :=
  if kind = 0 then (if p = 102 then 0 else if p = 109 then 1 else 3)
  else if kind = 1 then (if p = 116 then 0 else if p = 119 then 1 else if p = 115 then 2 else 3)
  else (if p = 115 then 0 else if p = 112 then 1 else if p = 110 then 2 else 3)
def q_lea (kind i : Nat) : Nat := [0, 1, 0, 1, 0, 1, 1, 1, 0].getD (kind * 3 + i) 0
def q_mos (kind W i : Nat) : Nat := if kind = 0 ∧ i = 0 then W else [8, 20, 0, 9, 99, 3, 9, 20, 99].getD (kind * 3 + i) 0
def q_wot (kind i : Nat) : Nat := [0, 1, 0, 1, 99, 1, 4, 1, 99].getD (kind * 3 + i) 0
/-- one item's number behind a: a fault's place, or the place behind and the number -/
def q_num (t : q_Tx) (lo hi a : Nat) : Nat ⊕ (Nat × Nat) :=
  if (q_dl t 2 (q_sk t a) 0).1 = q_sk t a ∨ q_dig t (q_dl t 2 (q_sk t a) 0).1 = true then .inl (q_dl t 2 (q_sk t a) 0).1
  else if lo ≤ (q_dl t 2 (q_sk t a) 0).2 ∧ (q_dl t 2 (q_sk t a) 0).2 ≤ hi then .inr (q_dl t 2 (q_sk t a) 0) else .inl ((q_dl t 2 (q_sk t a) 0).1 - 1)
def q_its (t : q_Tx) (kind W : Nat) : Nat → Nat → (Nat → Nat) → Nat → Nat ⊕ (Nat × (Nat → Nat))
  | 0, _, vals, a => .inr (a, vals)
  | m + 1, had, vals, a =>
    if q_itm kind (q_pk t (q_sk t a)) = 3 ∨ had.testBit (q_itm kind (q_pk t (q_sk t a))) = true then .inr (q_sk t a, vals)
    else match q_num t (q_lea kind (q_itm kind (q_pk t (q_sk t a)))) (q_mos kind W (q_itm kind (q_pk t (q_sk t a)))) (q_sk t a + 1) with
      | .inl f => .inl f
      | .inr r => q_its t kind W m (had ||| 2 ^ q_itm kind (q_pk t (q_sk t a))) (q_tu vals (q_itm kind (q_pk t (q_sk t a))) r.2) r.1
theorem q_itm_lt (kind p : Nat) : q_itm kind p ≤ 3 := by
  unfold q_itm
  split
  · split
    · omega
    · split <;> omega
  · split
    · split
      · omega
      · split
        · omega
        · split <;> omega
    · split
      · omega
      · split
        · omega
        · split <;> omega
theorem q_num_le {t : q_Tx} {lo hi a : Nat} (ha : a ≤ t.1) : (∀ f, q_num t lo hi a = .inl f → f ≤ t.1) ∧ (∀ r, q_num t lo hi a = .inr r → a < r.1 ∧ r.1 ≤ t.1 ∧ lo ≤ r.2 ∧ r.2 ≤ hi) := by
  have h1 := q_sk_le ha
  have h2 := q_dl_le (t := t) 2 (q_sk t a) 0 h1.2
  unfold q_num
  by_cases c1 : (q_dl t 2 (q_sk t a) 0).1 = q_sk t a ∨ q_dig t (q_dl t 2 (q_sk t a) 0).1 = true
  · rw [if_pos c1]
    exact ⟨fun f z => (by cases z; exact h2.2.1), fun r z => (by cases z)⟩
  · rw [if_neg c1]
    by_cases c2 : lo ≤ (q_dl t 2 (q_sk t a) 0).2 ∧ (q_dl t 2 (q_sk t a) 0).2 ≤ hi
    · rw [if_pos c2]
      refine ⟨fun f z => (by cases z), fun r z => ?_⟩
      cases z
      exact ⟨by have : ¬ (q_dl t 2 (q_sk t a) 0).1 = q_sk t a := fun z => c1 (Or.inl z); omega, h2.2.1, c2⟩
    · rw [if_neg c2]
      exact ⟨fun f z => (by cases z; omega), fun r z => (by cases z)⟩
theorem q_its_ok {t : q_Tx} {kind W : Nat} : ∀ (m had : Nat) (vals : Nat → Nat) (a : Nat), a ≤ t.1 → (∀ i, i < 3 → q_lea kind i ≤ vals i ∧ vals i ≤ q_mos kind W i) → (∀ f, q_its t kind W m had vals a = .inl f → f ≤ t.1) ∧ (∀ r, q_its t kind W m had vals a = .inr r → a ≤ r.1 ∧ r.1 ≤ t.1 ∧ ∀ i, i < 3 → q_lea kind i ≤ r.2 i ∧ r.2 i ≤ q_mos kind W i) := by
  intro m
  induction m with
  | zero =>
    intro had vals a ha hv
    unfold q_its
    exact ⟨fun f z => (by cases z), fun r z => (by cases z; exact ⟨Nat.le_refl _, ha, hv⟩)⟩
  | succ m ih =>
    intro had vals a ha hv
    have h1 := q_sk_le ha
    unfold q_its
    by_cases c : q_itm kind (q_pk t (q_sk t a)) = 3 ∨ had.testBit (q_itm kind (q_pk t (q_sk t a))) = true
    · rw [if_pos c]
      exact ⟨fun f z => (by cases z), fun r z => (by cases z; exact ⟨h1.1, h1.2, hv⟩)⟩
    · rw [if_neg c]
      have hne : q_pk t (q_sk t a) ≠ 0 := fun z => c (Or.inl (by rw [z]; unfold q_itm; split; rfl; split <;> rfl))
      have hlt : q_sk t a < t.1 := by
        apply Classical.byContradiction
        intro hc
        exact hne (by unfold q_pk; rw [if_neg hc])
      obtain ⟨n1, n2⟩ := q_num_le (t := t) (lo := q_lea kind (q_itm kind (q_pk t (q_sk t a)))) (hi := q_mos kind W (q_itm kind (q_pk t (q_sk t a)))) (a := q_sk t a + 1) (by omega)
      cases hq : q_num t (q_lea kind (q_itm kind (q_pk t (q_sk t a)))) (q_mos kind W (q_itm kind (q_pk t (q_sk t a)))) (q_sk t a + 1) with
      | inl f0 =>
        exact ⟨fun f z => (by cases z; exact n1 _ hq), fun r z => (by cases z)⟩
      | inr r0 =>
        obtain ⟨k1, k2, k3⟩ := n2 _ hq
        obtain ⟨i1, i2⟩ := ih (had ||| 2 ^ q_itm kind (q_pk t (q_sk t a))) (q_tu vals (q_itm kind (q_pk t (q_sk t a))) r0.2) r0.1 k2 (fun i hi => by
          unfold q_tu
          by_cases e : i = q_itm kind (q_pk t (q_sk t a))
          · rw [if_pos e, e]; exact k3
          · rw [if_neg e]; exact hv i hi)
        exact ⟨i1, fun r z => ⟨by have := (i2 r z).1; omega, (i2 r z).2⟩⟩
section QW
variable {n : Nat} {J : Nat → Nat → Int64} {T : Nat} {t : q_Tx}
theorem x_wi {I : Nat → Nat → Int32} {v lo hi : Nat} (hv : v < 2 ^ 30) (hl : lo < 2 ^ 30) (hh : hi < 2 ^ 30) : f_X11_isWithin n I J T (nI v) (nI lo) (nI hi) = some (if lo ≤ v ∧ v ≤ hi then 1 else 0) := by
  unfold f_X11_isWithin
  by_cases h1 : v < lo
  · rw [if_pos (nI_lt h1 (by omega)), if_neg (by omega)]
  · rw [if_neg (nI_nlt (by omega) (by omega))]
    by_cases h2 : hi < v
    · rw [if_pos (nI_lt h2 (by omega)), if_neg (by omega)]
    · rw [if_neg (nI_nlt (by omega) (by omega)), if_pos (by omega)]
theorem x_tabs : ∀ kind, kind < 3 → ∀ i, i < 3 → (nI kind * 3 + nI i = nI (kind * 3 + i)) ∧ am_LEAST (nI (kind * 3 + i)) = nI (q_lea kind i) ∧ (¬ (kind = 0 ∧ i = 0) → am_MOST (nI (kind * 3 + i)) = nI (q_mos kind 0 i)) ∧ am_WITHOUT (nI (kind * 3 + i)) = nI (q_wot kind i) := by
  intro kind hk i hi
  rcases (show kind = 0 ∨ kind = 1 ∨ kind = 2 by omega) with rfl | rfl | rfl <;> rcases (show i = 0 ∨ i = 1 ∨ i = 2 by omega) with rfl | rfl | rfl <;> refine ⟨by decide +kernel, by decide +kernel, ?_, by decide +kernel⟩ <;> first | (intro _; decide +kernel) | (intro z; exact absurd ⟨rfl, rfl⟩ z)
theorem x_itemOf {I : Nat → Nat → Int32} (hn : 300 ≤ n) {kind p : Nat} (hk : kind < 3) (hp : p < 256) : f_X3_itemOf n I J T (nI kind) (q_sg p) = some (if q_itm kind p = 3 then -1 else nI (q_itm kind p)) := by
  obtain ⟨m, rfl⟩ : ∃ m, n = m + 4 := ⟨n - 4, by omega⟩
  have key : ∀ L0 L1 L2 : Int32, am_LETTERS (nI kind * 3 + 0) = L0 → am_LETTERS (nI kind * 3 + (0 + 1)) = L1 → am_LETTERS (nI kind * 3 + (0 + 1 + 1)) = L2 → f_X3_itemOf (m + 4) I J T (nI kind) (q_sg p) = some (if L0 = q_sg p then 0 else if L1 = q_sg p then 1 else if L2 = q_sg p then 2 else -1) := by
    intro L0 L1 L2 h0 h1 h2
    have i0 : ok_ix (nI kind * 3 + 0) 9 := by rcases (show kind = 0 ∨ kind = 1 ∨ kind = 2 by omega) with rfl | rfl | rfl <;> decide +kernel
    have i1 : ok_ix (nI kind * 3 + (0 + 1)) 9 := by rcases (show kind = 0 ∨ kind = 1 ∨ kind = 2 by omega) with rfl | rfl | rfl <;> decide +kernel
    have i2 : ok_ix (nI kind * 3 + (0 + 1 + 1)) 9 := by rcases (show kind = 0 ∨ kind = 1 ∨ kind = 2 by omega) with rfl | rfl | rfl <;> decide +kernel
    unfold f_X3_itemOf
    rw [f_X3_itemOf_2, if_neg (show ¬ (3 : Int32) ≤ 0 by decide), if_pos i0, h0]
    by_cases c0 : L0 = q_sg p
    · rw [if_pos c0, if_pos c0]
    · rw [if_neg c0, if_neg c0, f_X3_itemOf_2, if_neg (show ¬ (3 : Int32) ≤ 0 + 1 by decide), if_pos i1, h1]
      by_cases c1 : L1 = q_sg p
      · rw [if_pos c1, if_pos c1]
        rfl
      · rw [if_neg c1, if_neg c1, f_X3_itemOf_2, if_neg (show ¬ (3 : Int32) ≤ 0 + 1 + 1 by decide), if_pos i2, h2]
        by_cases c2 : L2 = q_sg p
        · rw [if_pos c2, if_pos c2]
          rfl
        · rw [if_neg c2, if_neg c2, f_X3_itemOf_2, if_pos (show (3 : Int32) ≤ 0 + 1 + 1 + 1 by decide)]
  have hs : ∀ x, x < 256 → x ≠ 0 → ((nI x = q_sg p) ↔ p = x) := fun x hx h0 => ⟨fun z => (q_sg_eq hp hx h0).mp z.symm, fun z => ((q_sg_eq hp hx h0).mpr z).symm⟩
  have h00 : ¬ (0 : Int32) = q_sg p := fun z => by
    unfold q_sg at z
    by_cases h : p = 0
    · rw [if_pos h] at z
      exact absurd z (by decide)
    · rw [if_neg h] at z
      exact h ((nI_eq (a := 0) (by omega) (by omega)).mp z).symm
  rcases (show kind = 0 ∨ kind = 1 ∨ kind = 2 by omega) with rfl | rfl | rfl
  · rw [key (nI 102) (nI 109) 0 (by decide +kernel) (by decide +kernel) (by decide +kernel), if_neg h00]
    rw [show q_itm 0 p = (if p = 102 then 0 else if p = 109 then 1 else 3) from rfl]
    by_cases c0 : p = 102
    · rw [if_pos ((hs 102 (by omega) (by omega)).mpr c0), if_pos c0]; rfl
    · rw [if_neg (fun z => c0 ((hs 102 (by omega) (by omega)).mp z)), if_neg c0]
      by_cases c1 : p = 109
      · rw [if_pos ((hs 109 (by omega) (by omega)).mpr c1), if_pos c1]; rfl
      · rw [if_neg (fun z => c1 ((hs 109 (by omega) (by omega)).mp z)), if_neg c1]; rfl
  · rw [key (nI 116) (nI 119) (nI 115) (by decide +kernel) (by decide +kernel) (by decide +kernel)]
    rw [show q_itm 1 p = (if p = 116 then 0 else if p = 119 then 1 else if p = 115 then 2 else 3) from rfl]
    by_cases c0 : p = 116
    · rw [if_pos ((hs 116 (by omega) (by omega)).mpr c0), if_pos c0]; rfl
    · rw [if_neg (fun z => c0 ((hs 116 (by omega) (by omega)).mp z)), if_neg c0]
      by_cases c1 : p = 119
      · rw [if_pos ((hs 119 (by omega) (by omega)).mpr c1), if_pos c1]; rfl
      · rw [if_neg (fun z => c1 ((hs 119 (by omega) (by omega)).mp z)), if_neg c1]
        by_cases c2 : p = 115
        · rw [if_pos ((hs 115 (by omega) (by omega)).mpr c2), if_pos c2]; rfl
        · rw [if_neg (fun z => c2 ((hs 115 (by omega) (by omega)).mp z)), if_neg c2]; rfl
  · rw [key (nI 115) (nI 112) (nI 110) (by decide +kernel) (by decide +kernel) (by decide +kernel)]
    rw [show q_itm 2 p = (if p = 115 then 0 else if p = 112 then 1 else if p = 110 then 2 else 3) from rfl]
    by_cases c0 : p = 115
    · rw [if_pos ((hs 115 (by omega) (by omega)).mpr c0), if_pos c0]; rfl
    · rw [if_neg (fun z => c0 ((hs 115 (by omega) (by omega)).mp z)), if_neg c0]
      by_cases c1 : p = 112
      · rw [if_pos ((hs 112 (by omega) (by omega)).mpr c1), if_pos c1]; rfl
      · rw [if_neg (fun z => c1 ((hs 112 (by omega) (by omega)).mp z)), if_neg c1]
        by_cases c2 : p = 110
        · rw [if_pos ((hs 110 (by omega) (by omega)).mpr c2), if_pos c2]; rfl
        · rw [if_neg (fun z => c2 ((hs 110 (by omega) (by omega)).mp z)), if_neg c2]; rfl
theorem q_nIm1 {f : Nat} (h : f < 2 ^ 30) : nI f ≠ -1 := fun z => by
  have h2 : (nI f).toInt = -1 := by rw [z]; rfl
  rw [show (nI f).toInt = (f : Int) from nI_toInt (by omega)] at h2
  omega
theorem x_bound (hn : 300 ≤ n) (ht : q_tok t) {kind i W a : Nat} (hk : kind < 3) (hi : i < 3) (hW : W ≤ 9) {I : Nat → Nat → Int32} (ha : a ≤ t.1) (h : q_XC I t a (-1)) (h9 : I 9 0 = nI W) : ∃ v I', f_X3_boundNumber n I J T (nI kind) (nI i) = some (v, I') ∧ (∀ x y, x ≠ 1 → I' x y = I x y) ∧ match q_num t (q_lea kind i) (q_mos kind W i) a with
    | .inl f => I' 1 1 = nI t.1 ∧ I' 1 3 = nI f
    | .inr r => v = nI r.2 ∧ q_XC I' t r.1 (-1) := by
  have h160 := ht.1
  obtain ⟨I1, e1, e2, e3⟩ := x_number (n := n) (J := J) (T := T) (most := 2) hn ht (by omega) ha h
  have e1' : f_X10_number n I J T 2 = some (nI (q_dl t 2 (q_sk t a) 0).2, I1) := e1
  have hs := q_sk_le ha
  have hl := q_dl_le (t := t) 2 (q_sk t a) 0 hs.2
  obtain ⟨t1, t2, t3, t4⟩ := x_tabs kind hk i hi
  have hix : ok_ix (nI (kind * 3 + i)) 9 := q_ix (by omega) (by omega)
  have hmost : (if kind = 0 ∧ i = 0 then f_X3_boundNumber_36 n I1 J T (nI kind) (nI i) (nI (q_dl t 2 (q_sk t a) 0).2) (nI W) else f_X3_boundNumber_27 n I1 J T (nI kind) (nI i) (nI (q_dl t 2 (q_sk t a) 0).2)) = f_X3_boundNumber_36 n I1 J T (nI kind) (nI i) (nI (q_dl t 2 (q_sk t a) 0).2) (nI (q_mos kind W i)) := by
    by_cases c : kind = 0 ∧ i = 0
    · rw [if_pos c]
      unfold q_mos
      rw [if_pos c]
    · rw [if_neg c]
      unfold f_X3_boundNumber_27
      rw [t1, if_pos hix, t3 c]
      unfold q_mos
      rw [if_neg c, if_neg c]
  have hstart : f_X3_boundNumber n I J T (nI kind) (nI i) = f_X3_boundNumber_36 n I1 J T (nI kind) (nI i) (nI (q_dl t 2 (q_sk t a) 0).2) (nI (q_mos kind W i)) := by
    rw [← hmost]
    unfold f_X3_boundNumber
    rw [e1', Option.bind_some]
    simp only []
    by_cases ck : kind = 0
    · subst ck
      rw [if_pos nI_0]
      by_cases ci : i = 0
      · subst ci
        rw [if_pos nI_0, if_pos ⟨rfl, rfl⟩, e3 9 0 (by omega), h9]
      · rw [if_neg (nI_ne0 (by omega) (by omega)), if_neg (fun z => ci z.2)]
    · rw [if_neg (nI_ne0 (by omega) (by omega)), if_neg (fun z => ck z.1)]
  have hmle : q_mos kind W i ≤ 99 := by
    unfold q_mos
    split
    · omega
    · rcases (show kind = 0 ∨ kind = 1 ∨ kind = 2 by omega) with rfl | rfl | rfl <;> rcases (show i = 0 ∨ i = 1 ∨ i = 2 by omega) with rfl | rfl | rfl <;> decide
  have hlle : q_lea kind i ≤ 1 := by
    rcases (show kind = 0 ∨ kind = 1 ∨ kind = 2 by omega) with rfl | rfl | rfl <;> rcases (show i = 0 ∨ i = 1 ∨ i = 2 by omega) with rfl | rfl | rfl <;> decide
  rw [hstart]
  unfold f_X3_boundNumber_36
  rw [t1, if_pos hix, t2, x_wi (by omega) (by omega) (by omega), Option.bind_some]
  unfold q_num
  by_cases c1 : (q_dl t 2 (q_sk t a) 0).1 = q_sk t a ∨ q_dig t (q_dl t 2 (q_sk t a) 0).1 = true
  · rw [if_pos c1] at e2 ⊢
    have hf : I1 1 3 ≠ -1 := by rw [e2.2.2.2]; exact q_nIm1 (by omega)
    by_cases c2 : q_lea kind i ≤ (q_dl t 2 (q_sk t a) 0).2 ∧ (q_dl t 2 (q_sk t a) 0).2 ≤ q_mos kind W i
    · rw [if_pos c2, if_neg (by exact q_10)]
      exact ⟨_, I1, rfl, e3, e2.1, e2.2.2.2⟩
    · rw [if_neg c2, if_pos rfl, x_fail_f hf, Option.bind_some]
      exact ⟨_, I1, rfl, e3, e2.1, e2.2.2.2⟩
  · rw [if_neg c1] at e2 ⊢
    by_cases c2 : q_lea kind i ≤ (q_dl t 2 (q_sk t a) 0).2 ∧ (q_dl t 2 (q_sk t a) 0).2 ≤ q_mos kind W i
    · rw [if_pos c2, if_neg (by exact q_10), if_pos c2]
      exact ⟨_, I1, rfl, e3, rfl, e2⟩
    · have hgt : ¬ (q_dl t 2 (q_sk t a) 0).1 = q_sk t a := fun z => c1 (Or.inl z)
      have em : nI (q_dl t 2 (q_sk t a) 0).1 - 1 = nI ((q_dl t 2 (q_sk t a) 0).1 - 1) := by
        rw [show (1 : Int32) = nI 1 from rfl, pk_sub (by omega)]
      rw [if_neg c2, if_pos rfl, if_neg c2, e2.2.2.1, em, x_fail e2, Option.bind_some]
      exact ⟨_, _, rfl, fun x y hx => by rw [q_fu1 x y hx]; exact e3 x y hx, (e2.wr _).1, (e2.wr _).2.2.2⟩
end QW
