/-! ===== orders of stops: what is searched; the class ===== -/
/-- one stop more: where, gone, the sum, the most -/
def q_fs (D : q_Rd) (q : Nat × Nat × Nat × Int32) (r : Nat) : Nat × Nat × Nat × Int32 := (q_ho D r, q.2.1 + q_ap D q.1 (q_ho D r), q.2.2.1 + (q.2.1 + q_ap D q.1 (q_ho D r)), am_max q.2.2.2 (nI (q.2.1 + q_ap D q.1 (q_ho D r)) - nI (q_ap D 0 (q_ho D r))))
def q_ft (D : q_Rd) (t : Nat → Nat) : Nat → Nat × Nat × Nat × Int32
  | 0 => (0, 0, 0, 0)
  | i + 1 => q_fs D (q_ft D t i) (t i)
def q_sel (wish : Int32) (q : Nat × Nat × Nat × Int32) : Int32 := if wish = 0 then nI q.2.1 else if wish = 1 then nI q.2.2.1 else q.2.2.2
def q_tu (t : Nat → Nat) (K r : Nat) : Nat → Nat := fun i => if i = K then r else t i
theorem q_ft_congr (D : q_Rd) {t t' : Nat → Nat} : ∀ K, (∀ i, i < K → t i = t' i) → q_ft D t K = q_ft D t' K := by
  intro K
  induction K with
  | zero => intro _; rfl
  | succ K ih =>
    intro h
    unfold q_ft
    rw [ih (fun i hi => h i (by omega)), h K (by omega)]
theorem q_ft_tu (D : q_Rd) (t : Nat → Nat) (K r : Nat) : q_ft D (q_tu t K r) (K + 1) = q_fs D (q_ft D t K) r := by
  have h : q_ft D (q_tu t K r) K = q_ft D t K := q_ft_congr D K (fun i hi => by unfold q_tu; rw [if_neg (by omega)])
  show q_fs D (q_ft D (q_tu t K r) K) (q_tu t K r K) = _
  rw [h]
  unfold q_tu
  rw [if_pos rfl]
abbrev q_Best : Type := Option (Int32 × Int32)
def q_take (st : q_Best) (d v : Int32) : q_Best := match st with
  | none => some (d, v)
  | some b => if v < b.2 then some (d, v) else some b
def q_vl (b : Nat → Bool) (F : Nat → q_Best → q_Best) : Nat → Nat → q_Best → q_Best
  | 0, _, st => st
  | g + 1, r, st => q_vl b F g (r + 1) (if b r = true then F r st else st)
/-- all orders of those that wait (so many bits of wt), from the stops t 0 .. t (K - 1), whose digits are dg -/
def q_vs (D : q_Rd) (wish : Int32) : Nat → Nat → (Nat → Nat) → Nat → Nat → q_Best → q_Best
  | 0, _, t, K, dg, st => q_take st (nI dg) (q_sel wish (q_ft D t K))
  | f + 1, wt, t, K, dg, st => q_vl (fun r => wt.testBit r) (fun r st => q_vs D wish f (wt &&& (63 ^^^ 2 ^ r)) (q_tu t K r) (K + 1) (dg * 10 + r) st) (q_R D) 0 st
theorem q_bcm_f : ∀ W, W < 64 → ∀ r, r < 6 → (!(W.testBit r) || (decide (q_bc (W &&& (63 ^^^ 2 ^ r)) + 1 = q_bc W))) = true := by decide +kernel
theorem q_bcm {W r f : Nat} (hW : W < 64) (hr : r < 6) (hb : W.testBit r = true) (h : q_bc W = f + 1) : q_bc (W &&& (63 ^^^ 2 ^ r)) = f := by
  have h1 := q_bcm_f W hW r hr
  rw [hb, Bool.not_true, Bool.false_or, decide_eq_true_eq] at h1
  omega
theorem q_bc0 : ∀ W, W < 64 → (decide (q_bc W = 0) == decide (W = 0)) = true := by decide +kernel
theorem q_bc_0 {W : Nat} (hW : W < 64) : q_bc W = 0 ↔ W = 0 := by
  have := q_bc0 W hW
  rw [beq_iff_eq, decide_eq_decide] at this
  exact this
theorem q_anr {W r : Nat} (hW : W < 64) (hr : r < 6) : nI W &&& ((1 <<< (nI r &&& 31)) ^^^ (-1)) = nI (W &&& (63 ^^^ 2 ^ r)) := by
  obtain ⟨h1, h2⟩ := q_shl6 r hr
  rw [h1]
  exact q_anx W hW _ h2
/-- what the cells of the best hold -/
def q_stc (st : q_Best) (o v : Int32) : Prop := match st with
  | none => o = -1
  | some b => o = b.1 ∧ v = b.2 ∧ b.1 ≠ -1
section QW
variable {n : Nat} {D : q_Rd} {J : Nat → Nat → Int64} {T : Nat}
theorem x_grown (hn : 300 ≤ n) (hD : q_ok D) {I : Nat → Nat → Int32} (h : q_RX I D) {wish : Int32} (hw : I 30 1 = wish) {q : Nat × Nat × Nat × Int32} {r : Nat} (hr : r < q_R D) : f_X9_grown n I J T (q_sel wish q) (nI (q.2.1 + q_ap D q.1 (q_ho D r))) (nI (q_ho D r)) = some (q_sel wish (q_fs D q r)) := by
  unfold f_X9_grown
  rw [hw]
  unfold q_sel q_fs
  by_cases h0 : wish = 0
  · rw [if_pos h0, if_pos h0]
  · rw [if_neg h0, if_neg h0, if_neg h0]
    by_cases h1 : wish = 1
    · rw [if_pos h1, if_pos h1, if_pos h1, nI_add]
    · have e : f_X2_apart n I J T 0 (nI (q_ho D r)) = some (nI (q_ap D 0 (q_ho D r))) := x_apart (a := 0) hn hD h (Nat.zero_le _) (hD.2.2 r hr).2.1
      rw [if_neg h1, if_neg h1, if_neg h1, e, Option.bind_some]
theorem x_leaf {rc : (Nat → Nat → Int32) → (Nat → Nat → Int64) → Nat → Int32 → Int32 → Int32 → Int32 → Int32 → Int32 → Option (Nat → Nat → Int32)} {I : Nat → Nat → Int32} {st : q_Best} (h : q_stc st (I 30 2) (I 30 3)) {d w : Int32} (hd : d ≠ -1) : ∃ I', f_X9_visit_10 n rc I J T w d = some I' ∧ q_stc (q_take st d w) (I' 30 2) (I' 30 3) ∧ ∀ a c, ¬ (a = 30 ∧ (c = 2 ∨ c = 3)) → I' a c = I a c := by
  have hset : ∀ a c, ¬ (a = 30 ∧ (c = 2 ∨ c = 3)) → am_u (am_u I 30 2 d) 30 3 w a c = I a c := fun a c h => by
    unfold am_u
    rw [if_neg (by omega), if_neg (by omega)]
  have h2 : am_u (am_u I 30 2 d) 30 3 w 30 2 = d := by simp [am_u]
  have h3 : am_u (am_u I 30 2 d) 30 3 w 30 3 = w := by simp [am_u]
  unfold f_X9_visit_10 f_X9_visit_27
  cases st with
  | none =>
    have h' : I 30 2 = -1 := h
    rw [if_pos h']
    exact ⟨_, rfl, ⟨h2, h3, hd⟩, hset⟩
  | some b =>
    obtain ⟨a1, a2, a3⟩ := h
    rw [if_neg (by rw [a1]; exact a3), a2]
    unfold q_take
    by_cases hlt : w < b.2
    · have hle : ¬ b.2 ≤ w := Int32.not_le.mpr hlt
      simp only [if_neg hle, if_pos hlt]
      exact ⟨_, rfl, ⟨h2, h3, hd⟩, hset⟩
    · have hle : b.2 ≤ w := Int32.not_lt.mp hlt
      simp only [if_pos hle, if_neg hlt]
      exact ⟨_, rfl, ⟨a1, a2, a3⟩, fun _ _ _ => rfl⟩
theorem q_dgne {dg K : Nat} (h : dg < 10 ^ K) (hK : K ≤ 6) : nI dg ≠ -1 := by
  have h1 : 10 ^ K ≤ 10 ^ 6 := Nat.pow_le_pow_right (by omega) hK
  intro z
  have h2 : (nI dg).toInt = -1 := by rw [z]; rfl
  rw [show (nI dg).toInt = (dg : Int) from nI_toInt (by omega)] at h2
  omega
theorem x_visit (hn : 300 ≤ n) (hD : q_ok D) {wish : Int32} : ∀ (f m wt : Nat) (t : Nat → Nat) (K dg : Nat) (I : Nat → Nat → Int32) (st : q_Best), q_bc wt = f → K + f ≤ 6 → f < m → wt < 2 ^ q_R D → dg < 10 ^ K → (q_ft D t K).1 ≤ q_W D → I 30 1 = wish → q_RX I D → q_stc st (I 30 2) (I 30 3) → ∃ I', fx_X9_visit n m I J T (nI K) (nI wt) (nI (q_ft D t K).1) (nI (q_ft D t K).2.1) (q_sel wish (q_ft D t K)) (nI dg) = some I' ∧ q_stc (q_vs D wish f wt t K dg st) (I' 30 2) (I' 30 3) ∧ ∀ a c, ¬ (a = 30 ∧ (c = 2 ∨ c = 3)) → I' a c = I a c := by
  have hR := hD.1.2.1
  have hp := (q_pow2 (q_R D) hR).2
  intro f
  induction f with
  | zero =>
    intro m wt t K dg I st hf hK hm hwt hdg hat hI hx hst
    obtain ⟨m, rfl⟩ : ∃ z, m = z + 1 := ⟨m - 1, by omega⟩
    have hwt0 : wt = 0 := (q_bc_0 (by omega)).mp hf
    subst hwt0
    unfold fx_X9_visit fb_X9_visit
    rw [if_pos nI_0]
    exact x_leaf hst (q_dgne hdg (by omega))
  | succ f ih =>
    intro m wt t K dg I st hf hK hm hwt hdg hat hI hx hst
    obtain ⟨m, rfl⟩ : ∃ z, m = z + 1 := ⟨m - 1, by omega⟩
    have hwt0 : ¬ wt = 0 := fun z => by have := (q_bc_0 (W := wt) (by omega)).mpr z; omega
    have loop : ∀ (k r : Nat) (I : Nat → Nat → Int32) (st : q_Best), r ≤ q_R D → q_R D - r < k → I 30 1 = wish → q_RX I D → q_stc st (I 30 2) (I 30 3) → ∃ I', f_X9_visit_43 n (fx_X9_visit n m) k I J T (nI K) (nI wt) (nI (q_ft D t K).1) (nI (q_ft D t K).2.1) (q_sel wish (q_ft D t K)) (nI dg) (nI r) = some I' ∧ q_stc (q_vl (fun r => wt.testBit r) (fun r st => q_vs D wish f (wt &&& (63 ^^^ 2 ^ r)) (q_tu t K r) (K + 1) (dg * 10 + r) st) (q_R D - r) r st) (I' 30 2) (I' 30 3) ∧ ∀ a c, ¬ (a = 30 ∧ (c = 2 ∨ c = 3)) → I' a c = I a c := by
      intro k
      induction k with
      | zero => intro r I st _ h; omega
      | succ k ihk =>
        intro r I st hr hk hI hx hst
        rw [f_X9_visit_43, hx.1.2.1]
        by_cases e : r = q_R D
        · subst e
          rw [if_pos (Int32.le_refl _), Nat.sub_self]
          exact ⟨I, rfl, hst, fun _ _ _ => rfl⟩
        · obtain ⟨g, hg⟩ : ∃ g, q_R D - r = g + 1 := ⟨q_R D - r - 1, by omega⟩
          have hg' : q_R D - (r + 1) = g := by omega
          rw [if_neg (nI_ge (by omega) (by omega)), x_isIn (by omega) (by omega), Option.bind_some, hg]
          unfold f_X9_visit_132 q_vl
          rw [nI_1]
          by_cases hb : wt.testBit r = true
          · have hix : ok_ix (nI r) 6 := q_ix (by omega) (by omega)
            have hcl : (nI r).toNatClampNeg = r := q_cl (by omega)
            have hho := hD.2.2 r (by omega)
            have ehome := (hx.2.2 r (by omega)).1
            have ea : f_X2_apart n I J T (nI (q_ft D t K).1) (nI (q_ho D r)) = some (nI (q_ap D (q_ft D t K).1 (q_ho D r))) := x_apart hn hD hx hat hho.2.1
            have eg := x_grown (n := n) (J := J) (T := T) hn hD hx hI (q := q_ft D t K) (r := r) (by omega)
            have ed : nI dg * 10 + nI r = nI (dg * 10 + r) := by
              rw [show nI dg * 10 = nI (dg * 10) from pk_mul dg 10, nI_add]
            have et := q_ft_tu D t K r
            have hdg2 : dg * 10 + r < 10 ^ (K + 1) := by rw [Nat.pow_succ]; omega
            have hwt2 : wt &&& (63 ^^^ 2 ^ r) < 2 ^ q_R D := Nat.lt_of_le_of_lt Nat.and_le_left hwt
            obtain ⟨I1, e1, e2, e3⟩ := ih m (wt &&& (63 ^^^ 2 ^ r)) (q_tu t K r) (K + 1) (dg * 10 + r) I st (q_bcm (by omega) (by omega) hb hf) (by omega) (by omega) hwt2 hdg2 (by rw [et]; exact hho.2.1) hI hx hst
            rw [et] at e1
            have e1' : fx_X9_visit n m I J T (nI K + 1) (nI (wt &&& (63 ^^^ 2 ^ r))) (nI (q_ho D r)) (nI (q_ft D t K).2.1 + nI (q_ap D (q_ft D t K).1 (q_ho D r))) (q_sel wish (q_fs D (q_ft D t K) r)) (nI dg * 10 + nI r) = some I1 := by
              rw [ed, nI_1, nI_add]
              exact e1
            rw [if_pos hb, if_neg (by exact q_10), if_pos hix, if_pos hb]
            simp only [hcl, ehome, ea, Option.bind_some]
            rw [nI_add, eg, Option.bind_some, q_anr (by omega) (by omega), ← nI_add, e1', Option.bind_some]
            obtain ⟨I', f1, f2, f3⟩ := ihk (r + 1) I1 _ (by omega) (by omega) (by rw [e3 30 1 (by omega)]; exact hI) (hx.of3 (fun a c _ _ => e3 a c (by omega))) e2
            rw [hg'] at f2
            exact ⟨I', f1, f2, fun a c h => by rw [f3 a c h, e3 a c h]⟩
          · rw [if_neg hb, if_pos rfl, if_neg hb]
            obtain ⟨I', f1, f2, f3⟩ := ihk (r + 1) I st (by omega) (by omega) hI hx hst
            rw [hg'] at f2
            exact ⟨I', f1, f2, f3⟩
    unfold fx_X9_visit fb_X9_visit
    rw [if_neg (nI_ne0 (by omega) (by omega)), if_pos (show nI K < 6 from nI_lt (b := 6) (by omega) (by omega))]
    exact loop n 0 I st (Nat.zero_le _) (by omega) hI hx hst
end QW
