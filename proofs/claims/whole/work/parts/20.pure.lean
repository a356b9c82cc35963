/-! ===== the pure part: what the functions are, over numbers ===== -/
theorem q_lit (k : Nat) : (OfNat.ofNat k : Int32) = nI k := rfl
theorem q_or (a b : Nat) : nI a ||| nI b = nI (a ||| b) := by
  apply Int32.toBitVec_inj.mp
  simp [nI, Int32.toBitVec_or]
theorem q_and (a b : Nat) : nI a &&& nI b = nI (a &&& b) := by
  apply Int32.toBitVec_inj.mp
  simp [nI, Int32.toBitVec_and]
theorem q_xor (a b : Nat) : nI a ^^^ nI b = nI (a ^^^ b) := by
  apply Int32.toBitVec_inj.mp
  simp [nI, Int32.toBitVec_xor]
theorem q_shl1 : ∀ p, p < 31 → (1 : Int32) <<< (nI p &&& 31) = nI (2 ^ p) := by decide +kernel
theorem q_bit : ∀ a, a < 1024 → ∀ p, p < 10 → ((nI a >>> (nI p &&& 31)) &&& 1) = (if a.testBit p then 1 else 0) := by decide +kernel
theorem q_ix {j n : Nat} (h : j < n) (hn : n < 2 ^ 31) : ok_ix (nI j) n := vp_in_nI h hn
theorem q_cl {j : Nat} (h : j < 2 ^ 31) : (nI j).toNatClampNeg = j := nI_clamp h
/-- the way's bits from the station to a place -/
def q_pb (fr : Nat → Nat) : Nat → Nat → Nat
  | 0, _ => 0
  | k + 1, p => if p = 0 then 0 else 2 ^ p ||| q_pb fr k (fr p)
def q_path (fr : Nat → Nat) (p : Nat) : Nat := q_pb fr 10 p
theorem q_pb_fuel {fr : Nat → Nat} {W : Nat} (hf : ∀ p, 1 ≤ p → p ≤ W → fr p < p) : ∀ (p k k' : Nat), p ≤ W → p < k → p < k' → q_pb fr k p = q_pb fr k' p := by
  intro p
  induction p using Nat.strongRecOn with
  | ind p ih =>
    intro k k' hp h1 h2
    obtain ⟨k, rfl⟩ : ∃ z, k = z + 1 := ⟨k - 1, by omega⟩
    obtain ⟨k', rfl⟩ : ∃ z, k' = z + 1 := ⟨k' - 1, by omega⟩
    show (if p = 0 then 0 else _) = (if p = 0 then 0 else _)
    by_cases h0 : p = 0
    · rw [if_pos h0, if_pos h0]
    · rw [if_neg h0, if_neg h0]
      have := hf p (by omega) hp
      rw [ih (fr p) this k k' (by omega) (by omega) (by omega)]
theorem q_path_0 (fr : Nat → Nat) : q_path fr 0 = 0 := rfl
theorem q_path_s {fr : Nat → Nat} {W p : Nat} (hW : W ≤ 9) (hf : ∀ p, 1 ≤ p → p ≤ W → fr p < p) (h1 : 1 ≤ p) (hp : p ≤ W) : q_path fr p = 2 ^ p ||| q_path fr (fr p) := by
  show (if p = 0 then 0 else _) = _
  rw [if_neg (by omega)]
  have := hf p h1 hp
  rw [q_pb_fuel hf (fr p) 9 10 (by omega) (by omega) (by omega)]
  rfl
theorem q_path_lt {fr : Nat → Nat} {W : Nat} (hW : W ≤ 9) (hf : ∀ p, 1 ≤ p → p ≤ W → fr p < p) : ∀ p, p ≤ W → q_path fr p < 2 ^ (p + 1) := by
  intro p
  induction p using Nat.strongRecOn with
  | ind p ih =>
    intro hp
    by_cases h0 : p = 0
    · subst h0; exact (by decide : 0 < 2)
    · rw [q_path_s hW hf (by omega) hp]
      have h1 := hf p (by omega) hp
      have h2 := ih (fr p) h1 (by omega)
      have h3 : 2 ^ (fr p + 1) ≤ 2 ^ (p + 1) := Nat.pow_le_pow_right (by omega) (by omega)
      exact Nat.or_lt_two_pow (Nat.pow_lt_pow_right (by omega) (by omega)) (by omega)
/-- the class's road (cells at o: the object; a: from) as numbers -/
def q_Fr (I : Nat → Nat → Int32) (a W : Nat) (fr : Nat → Nat) : Prop := W ≤ 9 ∧ ∀ p, 1 ≤ p → p ≤ W → I a p = nI (fr p) ∧ fr p < p
theorem q_X2_path_loop {n : Nat} {I : Nat → Nat → Int32} {J : Nat → Nat → Int64} {T W : Nat} {fr : Nat → Nat} (h : q_Fr I 4 W fr) : ∀ (m a p s : Nat), p + s ≤ 9 → p ≤ W → p < m → a < 2 ^ 30 → f_X2_path_7 n m I J T (nI a) (nI p) (nI s) = some (nI (a ||| q_path fr p)) := by
  obtain ⟨hW, hf⟩ := h
  intro m
  induction m with
  | zero => intro a p s _ _ h; omega
  | succ m ih =>
    intro a p s h1 h2 h3 h4
    rw [f_X2_path_7]
    by_cases h0 : p = 0
    · subst h0
      have e : nI (a ||| q_path fr 0) = nI a := by rw [q_path_0, Nat.or_zero]
      rw [e, if_pos (show nI 0 ≤ 0 from nI_0 ▸ Int32.le_refl _)]
      split <;> rfl
    · have h5 : ¬ (9 : Int32) ≤ nI s := nI_ge (a := s) (b := 9) (by omega) (by omega)
      have h6 : ¬ nI p ≤ 0 := nI_nle (by omega) (by omega)
      obtain ⟨e1, e2⟩ := hf p (by omega) h2
      rw [if_neg h5, if_neg h6, if_pos (q_ix (by omega) (by omega)), q_cl (by omega), q_shl1 p (by omega), q_or, e1, nI_1]
      rw [ih (a ||| 2 ^ p) (fr p) (s + 1) (by omega) (by omega) (by omega) (Nat.or_lt_two_pow h4 (Nat.pow_lt_pow_right (by omega) (by omega)))]
      rw [q_path_s hW (fun p a b => (hf p a b).2) (by omega) h2, Nat.or_assoc]
theorem q_X2_path {n : Nat} {I : Nat → Nat → Int32} {J : Nat → Nat → Int64} {T W p : Nat} {fr : Nat → Nat} (hn : 300 ≤ n) (h : q_Fr I 4 W fr) (hp : p ≤ W) : f_X2_path n I J T (nI p) = some (nI (q_path fr p)) := by
  have := h.1
  unfold f_X2_path
  have e := q_X2_path_loop (n := n) (J := J) (T := T) h n 0 p 0 (by omega) hp (by omega) (by omega)
  rw [Nat.zero_or] at e
  exact e
/-! the road as numbers: (ways, riders, seats, price, night), from, miles, homes, walking, seats -/
abbrev q_Rd : Type := (Nat × Nat × Nat × Nat × Nat) × (Nat → Nat) × (Nat → Nat) × (Nat → Nat) × (Nat → Nat) × (Nat → Nat)
abbrev q_W (D : q_Rd) : Nat := D.1.1
abbrev q_R (D : q_Rd) : Nat := D.1.2.1
abbrev q_cs (D : q_Rd) : Nat := D.1.2.2.1
abbrev q_pr (D : q_Rd) : Nat := D.1.2.2.2.1
abbrev q_ni (D : q_Rd) : Nat := D.1.2.2.2.2
abbrev q_fr (D : q_Rd) : Nat → Nat := D.2.1
abbrev q_mi (D : q_Rd) : Nat → Nat := D.2.2.1
abbrev q_ho (D : q_Rd) : Nat → Nat := D.2.2.2.1
abbrev q_wa (D : q_Rd) : Nat → Nat := D.2.2.2.2.1
abbrev q_se (D : q_Rd) : Nat → Nat := D.2.2.2.2.2
/-- bounds -/
def q_ok (D : q_Rd) : Prop := (q_W D ≤ 9 ∧ q_R D ≤ 6 ∧ q_cs D ≤ 9 ∧ q_pr D ≤ 20 ∧ q_ni D ≤ 99) ∧ (∀ p, 1 ≤ p → p ≤ q_W D → q_fr D p < p ∧ 1 ≤ q_mi D p ∧ q_mi D p ≤ 20) ∧ ∀ r, r < q_R D → 1 ≤ q_ho D r ∧ q_ho D r ≤ q_W D ∧ q_wa D r ≤ 99 ∧ 1 ≤ q_se D r ∧ q_se D r ≤ 3
/-- the class's cells hold it -/
def q_RX (I : Nat → Nat → Int32) (D : q_Rd) : Prop := (I 3 0 = nI (q_W D) ∧ I 3 1 = nI (q_R D) ∧ I 3 2 = nI (q_cs D) ∧ I 3 3 = nI (q_pr D) ∧ I 3 4 = nI (q_ni D)) ∧ (∀ p, 1 ≤ p → p ≤ q_W D → I 4 p = nI (q_fr D p) ∧ I 5 p = nI (q_mi D p)) ∧ ∀ r, r < q_R D → I 6 r = nI (q_ho D r) ∧ I 7 r = nI (q_wa D r) ∧ I 8 r = nI (q_se D r)
/-- the reference's -/
def q_RM (I : Nat → Nat → Int32) (D : q_Rd) : Prop := (I 53 26 = nI (q_W D) ∧ I 53 27 = nI (q_R D) ∧ I 61 0 = nI (q_cs D) ∧ I 61 1 = nI (q_pr D) ∧ I 61 2 = nI (q_ni D)) ∧ (∀ p, 1 ≤ p → p ≤ q_W D → I 58 p = nI (q_fr D p) ∧ I 59 p = nI (q_mi D p)) ∧ ∀ r, r < q_R D → I 60 (3 * r) = nI (q_ho D r) ∧ I 60 (3 * r + 1) = nI (q_wa D r) ∧ I 60 (3 * r + 2) = nI (q_se D r)
theorem q_ok.fr {D : q_Rd} (h : q_ok D) : ∀ p, 1 ≤ p → p ≤ q_W D → q_fr D p < p := fun p a b => (h.2.1 p a b).1
theorem q_RX.fr {I : Nat → Nat → Int32} {D : q_Rd} (hD : q_ok D) (h : q_RX I D) : q_Fr I 4 (q_W D) (q_fr D) := ⟨hD.1.1, fun p a b => ⟨(h.2.1 p a b).1, (hD.2.1 p a b).1⟩⟩
theorem q_has {S r : Nat} (hS : S < 1024) (hr : r < 10) : (((nI S >>> (nI r &&& 31)) &&& 1) = 1) ↔ S.testBit r = true := by
  rw [q_bit S hS r hr]
  split <;> simp_all
/-- miles of the ways 1 .. w that are among the bits a -/
def q_ms (mi : Nat → Nat) (a : Nat) : Nat → Nat
  | 0 => 0
  | w + 1 => q_ms mi a w + (if a.testBit (w + 1) then mi (w + 1) else 0)
theorem q_ms_le {mi : Nat → Nat} {a W : Nat} (h : ∀ p, 1 ≤ p → p ≤ W → mi p ≤ 20) : ∀ w, w ≤ W → q_ms mi a w ≤ 20 * w := by
  intro w
  induction w with
  | zero => intro _; exact Nat.le_refl _
  | succ w ih =>
    intro hw
    have h1 := ih (by omega)
    have h2 := h (w + 1) (by omega) hw
    show q_ms mi a w + (if _ then _ else _) ≤ _
    split <;> omega
section QX
variable {n : Nat} {I : Nat → Nat → Int32} {J : Nat → Nat → Int64} {T : Nat} {D : q_Rd}
theorem x_isIn {S r : Nat} (hS : S < 1024) (hr : r < 10) : f_X11_isIn n I J T (nI r) (nI S) = some (if S.testBit r then 1 else 0) := by
  unfold f_X11_isIn
  by_cases h : S.testBit r = true
  · rw [if_pos ((q_has hS hr).mpr h), if_pos h]
  · rw [if_neg (fun z => h ((q_has hS hr).mp z)), if_neg h]
theorem m_has {S r : Nat} (hS : S < 1024) (hr : r < 10) : f_X12_has n I J T (nI S) (nI r) = some (if S.testBit r then 1 else 0) := by
  unfold f_X12_has
  by_cases h : S.testBit r = true
  · rw [if_pos ((q_has hS hr).mpr h), if_pos h]
  · rw [if_neg (fun z => h ((q_has hS hr).mp z)), if_neg h]
theorem x_path {p : Nat} (hn : 300 ≤ n) (hD : q_ok D) (h : q_RX I D) (hp : p ≤ q_W D) : f_X2_path n I J T (nI p) = some (nI (q_path (q_fr D) p)) := q_X2_path hn (h.fr hD) hp
theorem x_milesOf_loop (hD : q_ok D) (h : q_RX I D) {a : Nat} (ha : a < 1024) : ∀ (m w : Nat), w ≤ q_W D → q_W D - w < m → f_X2_milesOf_4 n m I J T (nI a) (nI (q_ms (q_mi D) a w)) (nI (w + 1)) = some (nI (q_ms (q_mi D) a (q_W D))) := by
  obtain ⟨⟨hW, -⟩, hp, -⟩ := hD
  obtain ⟨⟨e1, -⟩, e2, -⟩ := h
  intro m
  induction m with
  | zero => intro w _ h; omega
  | succ m ih =>
    intro w hw hm
    rw [f_X2_milesOf_4, e1]
    by_cases h1 : w = q_W D
    · subst h1
      rw [if_pos (nI_lt (by omega) (by omega))]
    · have h2 : w + 1 ≤ q_W D := by omega
      rw [if_neg (nI_nlt (by omega) (by omega))]
      have h3 : q_ms (q_mi D) a (w + 1) = q_ms (q_mi D) a w + (if a.testBit (w + 1) then q_mi D (w + 1) else 0) := rfl
      by_cases hb : a.testBit (w + 1) = true
      · rw [if_pos ((q_has ha (by omega)).mpr hb), if_pos (q_ix (by omega) (by omega)), q_cl (by omega), (e2 (w + 1) (by omega) h2).2, nI_add]
        rw [if_pos hb] at h3
        unfold f_X2_milesOf_30
        rw [nI_1, ← h3]
        exact ih (w + 1) h2 (by omega)
      · rw [if_neg (fun z => hb ((q_has ha (by omega)).mp z))]
        have h3 : q_ms (q_mi D) a (w + 1) = q_ms (q_mi D) a w := by rw [h3, if_neg hb]; rfl
        unfold f_X2_milesOf_30
        rw [nI_1, ← h3]
        exact ih (w + 1) h2 (by omega)
theorem x_milesOf {a : Nat} (hn : 300 ≤ n) (hD : q_ok D) (h : q_RX I D) (ha : a < 1024) : f_X2_milesOf n I J T (nI a) = some (nI (q_ms (q_mi D) a (q_W D))) := by
  unfold f_X2_milesOf
  have := hD.1.1
  exact x_milesOf_loop hD h ha n 0 (Nat.zero_le _) (by omega)
/-- the ways of a set of riders 0 .. r-1 -/
def q_pp (D : q_Rd) (S : Nat) : Nat → Nat
  | 0 => 0
  | r + 1 => if S.testBit r then q_pp D S r ||| q_path (q_fr D) (q_ho D r) else q_pp D S r
theorem q_pp_lt (hD : q_ok D) (S : Nat) : ∀ r, r ≤ q_R D → q_pp D S r < 1024 := by
  intro r
  induction r with
  | zero => intro _; exact (by decide : 0 < 1024)
  | succ r ih =>
    intro hr
    have h1 := ih (by omega)
    have h2 := hD.2.2 r (by omega)
    have h3 := q_path_lt hD.1.1 hD.fr (q_ho D r) h2.2.1
    have h4 : q_path (q_fr D) (q_ho D r) < 1024 := Nat.lt_of_lt_of_le h3 (Nat.pow_le_pow_right (n := 2) (by omega) (show q_ho D r + 1 ≤ 10 by have := hD.1.1; omega))
    show (if S.testBit r then _ else _) < 1024
    split
    · exact Nat.or_lt_two_pow (n := 10) h1 h4
    · exact h1
/-- miles, cost of a set -/
def q_mf (D : q_Rd) (S : Nat) : Nat := q_ms (q_mi D) (q_pp D S (q_R D)) (q_W D)
def q_nm (D : q_Rd) (m : Nat) : Nat := if 0 < q_ni D ∧ q_ni D < m then m - q_ni D else 0
def q_cost (D : q_Rd) (S : Nat) : Nat := q_pr D * (q_mf D S + q_nm D (q_mf D S))
theorem q_mf_le (hD : q_ok D) (S : Nat) : q_mf D S ≤ 180 := by
  have h := q_ms_le (a := q_pp D S (q_R D)) (fun p a b => (hD.2.1 p a b).2.2) (q_W D) (Nat.le_refl _)
  have := hD.1.1
  unfold q_mf
  omega
theorem x_milesFor_loop (hn : 300 ≤ n) (hD : q_ok D) (h : q_RX I D) {S : Nat} (hS : S < 1024) : ∀ (m r : Nat), r ≤ q_R D → q_R D - r < m → f_X2_milesFor_4 n m I J T (nI S) (nI (q_pp D S r)) (nI r) = some (nI (q_mf D S)) := by
  intro m
  induction m with
  | zero => intro r _ h; omega
  | succ m ih =>
    intro r hr hm
    have hR := hD.1.2.1
    rw [f_X2_milesFor_4, h.1.2.1]
    by_cases h1 : r = q_R D
    · subst h1
      rw [if_pos (Int32.le_refl _), x_milesOf hn hD h (q_pp_lt hD S _ (Nat.le_refl _))]
      rfl
    · rw [if_neg (nI_ge (by omega) (by omega)), x_isIn hS (by omega)]
      have h2 := hD.2.2 r (by omega)
      by_cases hb : S.testBit r = true
      · have h3 : q_pp D S (r + 1) = q_pp D S r ||| q_path (q_fr D) (q_ho D r) := if_pos hb
        rw [if_pos hb, Option.bind_some, if_neg (by decide), if_pos (q_ix (by omega) (by omega)), q_cl (by omega), (h.2.2 r (by omega)).1, x_path hn hD h h2.2.1, Option.bind_some]
        unfold f_X2_milesFor_33
        rw [q_or, nI_1, ← h3]
        exact ih (r + 1) (by omega) (by omega)
      · have h3 : q_pp D S (r + 1) = q_pp D S r := if_neg hb
        rw [if_neg hb, Option.bind_some, if_pos rfl]
        unfold f_X2_milesFor_33
        rw [nI_1, ← h3]
        exact ih (r + 1) (by omega) (by omega)
theorem x_milesFor {S : Nat} (hn : 300 ≤ n) (hD : q_ok D) (h : q_RX I D) (hS : S < 1024) : f_X2_milesFor n I J T (nI S) = some (nI (q_mf D S)) := by
  unfold f_X2_milesFor
  have := hD.1.2.1
  exact x_milesFor_loop hn hD h hS n 0 (Nat.zero_le _) (by omega)
theorem x_nightMiles {m : Nat} (hD : q_ok D) (h : q_RX I D) (hm : m < 1000) : f_X2_nightMiles n I J T (nI m) = some (nI (q_nm D m)) := by
  unfold f_X2_nightMiles q_nm
  have := hD.1.2.2.2.2
  rw [h.1.2.2.2.2]
  by_cases h0 : q_ni D = 0
  · rw [if_pos (by rw [h0]; decide), if_neg (by omega)]; rfl
  · rw [if_neg (nI_nle (by omega) (by omega))]
    by_cases h1 : m ≤ q_ni D
    · rw [if_pos (nI_le h1 (by omega)), if_neg (by omega)]; rfl
    · rw [if_neg (nI_ge (by omega) (by omega)), if_pos ⟨by omega, by omega⟩, pk_sub (by omega)]
theorem x_costFor {S : Nat} (hn : 300 ≤ n) (hD : q_ok D) (h : q_RX I D) (hS : S < 1024) : f_X2_costFor n I J T (nI S) = some (nI (q_cost D S)) := by
  unfold f_X2_costFor
  have := q_mf_le hD S
  rw [x_milesFor hn hD h hS, Option.bind_some, x_nightMiles hD h (by omega), Option.bind_some, h.1.2.2.2.1, nI_add, pk_mul]
  rfl
end QX
