/-! a circuit: n gates of kinds K over A, B, C; wires w; its levels; the registers' next state -/
def cf_C (n : Nat) (K A B C w : Nat → Nat) : Prop :=
  n ≤ 20 ∧ (∀ g, g < n → K g < 10 ∧ A g < 12 + g ∧ B g < 12 + g ∧ C g < 12 + g) ∧ ∀ j, j < 10 → w j < 12 + n
def cf_vq (e : Nat → Bool) (K A B C : Nat → Nat) : Nat → Nat → Bool
  | 0 => e
  | n + 1 => fun j => if j = 12 + n then cf_mk (K n) (cf_vq e K A B C n (A n)) (cf_vq e K A B C n (B n)) (cf_vq e K A B C n (C n)) else cf_vq e K A B C n j
theorem cf_vs (e : Nat → Bool) (K A B C : Nat → Nat) (m j : Nat) (hj : j < 12 + m) : ∀ n, m ≤ n → cf_vq e K A B C n j = cf_vq e K A B C m j := by
  intro n
  induction n with
  | zero =>
    intro h
    have : m = 0 := by omega
    rw [this]
  | succ n ih =>
    intro h
    by_cases e1 : m = n + 1
    · rw [e1]
    · have h2 : ¬ j = 12 + n := by omega
      show (if j = 12 + n then _ else cf_vq e K A B C n j) = _
      rw [if_neg h2]
      exact ih (by omega)
def cf_ba (x y : Int32) (j : Nat) : Bool := if j < 6 then bt x j else bt y (j - 6)
def cf_V (K A B C : Nat → Nat) (x y : Int32) : Nat → Bool := cf_vq (cf_ba x y) K A B C 20
theorem cf_Vi (K A B C : Nat → Nat) (x y : Int32) {j : Nat} (hj : j < 6) : cf_V K A B C x y j = bt x j := by
  unfold cf_V
  rw [cf_vs _ K A B C 0 j (by omega) 20 (by omega)]
  exact if_pos hj
theorem cf_Vr (K A B C : Nat → Nat) (x y : Int32) {j : Nat} (hj : j < 6) : cf_V K A B C x y (6 + j) = bt y j := by
  unfold cf_V
  rw [cf_vs _ K A B C 0 (6 + j) (by omega) 20 (by omega)]
  show (if 6 + j < 6 then bt x (6 + j) else bt y (6 + j - 6)) = _
  rw [if_neg (by omega), Nat.add_sub_cancel_left]
theorem cf_Vg {n : Nat} {K A B C w : Nat → Nat} (h : cf_C n K A B C w) (x y : Int32) {g : Nat} (hg : g < n) :
    cf_V K A B C x y (12 + g) = cf_mk (K g) (cf_V K A B C x y (A g)) (cf_V K A B C x y (B g)) (cf_V K A B C x y (C g)) := by
  obtain ⟨hn, hG, -⟩ := h
  obtain ⟨-, hA, hB, hC⟩ := hG g hg
  unfold cf_V
  rw [cf_vs _ K A B C (g + 1) (12 + g) (by omega) 20 (by omega), cf_vs _ K A B C g (A g) hA 20 (by omega), cf_vs _ K A B C g (B g) hB 20 (by omega), cf_vs _ K A B C g (C g) hC 20 (by omega)]
  exact if_pos rfl
def cf_ac (b : Nat → Bool) : Nat → Int32
  | 0 => 0
  | n + 1 => cf_ac b n ||| (cf_bi (b n) <<< (nI n &&& 31))
def cf_sn (b : Nat → Bool) : Nat := (b 0).toNat + 2 * (b 1).toNat + 4 * (b 2).toNat + 8 * (b 3).toNat + 16 * (b 4).toNat + 32 * (b 5).toNat
theorem cf_sn64 (b : Nat → Bool) : cf_sn b < 64 := by
  have h0 := Bool.toNat_le (b 0)
  have h1 := Bool.toNat_le (b 1)
  have h2 := Bool.toNat_le (b 2)
  have h3 := Bool.toNat_le (b 3)
  have h4 := Bool.toNat_le (b 4)
  have h5 := Bool.toNat_le (b 5)
  unfold cf_sn
  omega
theorem cf_six : ∀ b0 b1 b2 b3 b4 b5 : Bool, ((((((0 ||| (cf_bi b0 <<< (nI 0 &&& 31))) ||| (cf_bi b1 <<< (nI 1 &&& 31))) ||| (cf_bi b2 <<< (nI 2 &&& 31))) ||| (cf_bi b3 <<< (nI 3 &&& 31))) ||| (cf_bi b4 <<< (nI 4 &&& 31))) ||| (cf_bi b5 <<< (nI 5 &&& 31)))
    = nI (b0.toNat + 2 * b1.toNat + 4 * b2.toNat + 8 * b3.toNat + 16 * b4.toNat + 32 * b5.toNat) := by decide +kernel
theorem cf_ac6 (b : Nat → Bool) : cf_ac b 6 = nI (cf_sn b) := cf_six (b 0) (b 1) (b 2) (b 3) (b 4) (b 5)
def cf_st (K A B C w : Nat → Nat) (x : Int32) (R : Nat) : Nat := cf_sn (fun r => cf_V K A B C x (nI R) (w r))
theorem cf_st64 (K A B C w : Nat → Nat) (x : Int32) (R : Nat) : cf_st K A B C w x R < 64 := cf_sn64 _
/-! levels by place in one int -/
def cf_P (P : Nat → Nat) : Prop := (∀ s, s < 32 → P s < 32) ∧ ∀ s t, s < 32 → t < 32 → P s = P t → s = t
def cf_L (P : Nat → Nat) (V : Nat → Bool) (n : Nat) (L : Int32) : Prop := ∀ s, s < 32 → bt L (P s) = (decide (s < n) && V s)
theorem cf_L0 (P : Nat → Nat) (V : Nat → Bool) : cf_L P V 0 0 := by
  intro s _
  rw [b_0, decide_eq_false (Nat.not_lt_zero s), Bool.false_and]
theorem cf_Lr {P : Nat → Nat} {V : Nat → Bool} {n : Nat} {L : Int32} (h : cf_L P V n L) {s : Nat} (hs : s < n) (h2 : s < 32) : bt L (P s) = V s := by
  rw [h s h2, decide_eq_true hs, Bool.true_and]
theorem cf_Ls {P : Nat → Nat} {V : Nat → Bool} {n : Nat} {L : Int32} (hP : cf_P P) (h : cf_L P V n L) (hn : n < 32) :
    cf_L P V (n + 1) (L ||| (cf_bi (V n) <<< (nI (P n) &&& 31))) := by
  intro s hs
  have h1 := hP.1 s hs
  rw [b_or, h s hs, b_shl (P n) (hP.1 n hn) _ h1, cf_bb _ (by omega)]
  by_cases e : s = n
  · subst e
    rw [decide_eq_false (Nat.lt_irrefl s), decide_eq_true (Nat.lt_succ_self s), decide_eq_true (Nat.le_refl (P s)), Nat.sub_self, decide_eq_true (rfl : (0 : Nat) = 0)]
    cases V s <;> rfl
  · have h3 : ¬ P s = P n := fun z => e (hP.2 s n hs hn z)
    have h4 : (decide (P n ≤ P s) && (V n && decide (P s - P n = 0))) = false := by
      by_cases h5 : P n ≤ P s
      · rw [decide_eq_false (show ¬ P s - P n = 0 by omega), Bool.and_false, Bool.and_false]
      · rw [decide_eq_false h5, Bool.false_and]
    rw [h4, Bool.or_false]
    have h6 : (s < n + 1) ↔ (s < n) := by omega
    rw [decide_eq_decide.mpr h6]
/-! a function on the states below 64: its tail and its loop -/
theorem cf_hole : ∀ (n : Nat) (f : Nat → Nat), (∀ i, i ≤ n → f i < n) → ∃ i j, i < j ∧ j ≤ n ∧ f i = f j := by
  intro n
  induction n with
  | zero =>
    intro f h
    exact absurd (h 0 (Nat.le_refl 0)) (Nat.not_lt_zero _)
  | succ n ih =>
    intro f h
    by_cases hc : ∃ i, i ≤ n ∧ f i = f (n + 1)
    · obtain ⟨i, h1, h2⟩ := hc
      exact ⟨i, n + 1, by omega, Nat.le_refl _, h2⟩
    · have hc' : ∀ i, i ≤ n → f i ≠ f (n + 1) := fun i h1 h2 => hc ⟨i, h1, h2⟩
      have hl := h (n + 1) (Nat.le_refl _)
      obtain ⟨i, j, hij, hj, e⟩ := ih (fun i => if f i = n then f (n + 1) else f i) (by
        intro i hi
        have a1 := h i (by omega)
        have a2 := hc' i hi
        show (if f i = n then f (n + 1) else f i) < n
        split <;> omega)
      refine ⟨i, j, hij, by omega, ?_⟩
      have b1 := hc' i (by omega)
      have b2 := hc' j hj
      have e' : (if f i = n then f (n + 1) else f i) = (if f j = n then f (n + 1) else f j) := e
      revert e'
      split <;> split <;> intro e' <;> omega
def cf_it (f : Nat → Nat) (s : Nat) : Nat → Nat
  | 0 => s
  | n + 1 => f (cf_it f s n)
theorem cf_itA (f : Nat → Nat) (s a : Nat) : ∀ b, cf_it f (cf_it f s a) b = cf_it f s (a + b) := by
  intro b
  induction b with
  | zero => rfl
  | succ b ih =>
    show f (cf_it f (cf_it f s a) b) = f (cf_it f s (a + b))
    rw [ih]
theorem cf_it64 {f : Nat → Nat} (hf : ∀ s, f s < 64) {s : Nat} (hs : s < 64) : ∀ n, cf_it f s n < 64 := by
  intro n
  cases n with
  | zero => exact hs
  | succ n => exact hf _
/-- e is the first step that comes back, to step t -/
def cf_Lo (f : Nat → Nat) (s t e : Nat) : Prop :=
  t < e ∧ e ≤ 64 ∧ cf_it f s e = cf_it f s t ∧ ∀ i j, i < j → j < e → cf_it f s i ≠ cf_it f s j
theorem cf_lo {f : Nat → Nat} (hf : ∀ s, f s < 64) {s : Nat} (hs : s < 64) : ∃ t e, cf_Lo f s t e := by
  obtain ⟨i, j, hij, hj, e⟩ := cf_hole 64 (cf_it f s) (fun i _ => cf_it64 hf hs i)
  obtain ⟨m, ⟨⟨i', h1, h2⟩, hm⟩, hl⟩ := pk_least (fun e => (∃ t, t < e ∧ cf_it f s t = cf_it f s e) ∧ e ≤ 64) ⟨j, ⟨i, hij, e⟩, hj⟩
  exact ⟨i', m, h1, hm, h2.symm, fun a b hab hb z => hl b hb ⟨⟨a, hab, z⟩, by omega⟩⟩
/-! a long as a set of states -/
def cf_bl (x : Int64) (i : Nat) : Bool := x.toBitVec.getLsbD i
theorem cf_mkT : ∀ k, k < 64 → ((1 : Int64) <<< ((nI k).toInt64 &&& 63)).toBitVec = BitVec.twoPow 64 k := by decide +kernel
theorem cf_blA (x : Int64) {k : Nat} (hk : k < 64) : (x &&& ((1 : Int64) <<< ((nI k).toInt64 &&& 63))) = 0 ↔ cf_bl x k = false := by
  rw [← Int64.toBitVec_inj, Int64.toBitVec_and, cf_mkT k hk, BitVec.and_twoPow]
  unfold cf_bl
  cases h : x.toBitVec.getLsbD k
  · exact ⟨fun _ => rfl, fun _ => rfl⟩
  · constructor
    · intro z
      have z2 : (BitVec.twoPow 64 k).getLsbD k = (0#64).getLsbD k := by
        have z3 : BitVec.twoPow 64 k = 0#64 := z
        rw [z3]
      rw [BitVec.getLsbD_twoPow, BitVec.getLsbD_zero] at z2
      simp [hk] at z2
    · intro z
      exact absurd z (by decide)
theorem cf_blO (x : Int64) {k i : Nat} (hk : k < 64) (hi : i < 64) : cf_bl (x ||| ((1 : Int64) <<< ((nI k).toInt64 &&& 63))) i = (cf_bl x i || decide (k = i)) := by
  unfold cf_bl
  rw [Int64.toBitVec_or, BitVec.getLsbD_or, cf_mkT k hk, BitVec.getLsbD_twoPow]
  by_cases e : k = i
  · subst e
    simp [hi]
  · simp [e]
/-! places by an odd stride -/
def cf_pl (c s : Nat) : Nat := (c + s * (2 * c + 1)) % 32
theorem cf_odd : ∀ d, d < 16 → ((2 * d + 1) * (2 * d + 1) ^ 7) % 32 = 1 := by decide
theorem cf_inv (c : Nat) : ∃ e q, (2 * c + 1) * e = 32 * q + 1 := by
  have h := cf_odd (c % 16) (Nat.mod_lt _ (by decide))
  generalize he : (2 * (c % 16) + 1) ^ 7 = e at h
  refine ⟨e, ((2 * c + 1) * e) / 32, ?_⟩
  have h2 : 2 * c + 1 = 32 * (c / 16) + (2 * (c % 16) + 1) := by omega
  have h3 : ((2 * c + 1) * e) % 32 = 1 := by
    rw [h2, Nat.add_mul, Nat.mul_assoc, Nat.mul_add_mod]
    exact h
  generalize (2 * c + 1) * e = z at h3 ⊢
  omega
theorem cf_modm {k q s : Nat} (e : Nat) (h : k * e = 32 * q + 1) : (s * k * e) % 32 = s % 32 := by
  rw [Nat.mul_assoc, h, Nat.mul_add, Nat.mul_one, ← Nat.mul_assoc, Nat.mul_comm s 32, Nat.mul_assoc, Nat.mul_add_mod]
theorem cf_pinj (c : Nat) {s t : Nat} (hs : s < 32) (ht : t < 32) (h : cf_pl c s = cf_pl c t) : s = t := by
  obtain ⟨e, q, he⟩ := cf_inv c
  unfold cf_pl at h
  have h1 : (s * (2 * c + 1)) % 32 = (t * (2 * c + 1)) % 32 := by
    generalize s * (2 * c + 1) = a at h ⊢
    generalize t * (2 * c + 1) = b at h ⊢
    omega
  have h2 : (s * (2 * c + 1) * e) % 32 = (t * (2 * c + 1) * e) % 32 := by
    rw [Nat.mul_mod, h1, ← Nat.mul_mod]
  rw [cf_modm e he, cf_modm e he] at h2
  omega
theorem cf_plP (c : Nat) : cf_P (cf_pl c) := ⟨fun _ _ => Nat.mod_lt _ (by decide), fun _ _ hs ht h => cf_pinj c hs ht h⟩
theorem cf_plI {c s : Nat} (hc : c ≤ 1000) (hs : s < 32) : (nI c + (nI s * (2 * nI c + 1))) &&& 31 = nI (cf_pl c s) := by
  have h1 : 2 * nI c + 1 = nI (2 * c + 1) := by
    have : (2 : Int32) * nI c = nI (2 * c) := pk_mul 2 c
    rw [this, nI_1]
  have h2 : s * (2 * c + 1) ≤ 31 * 2001 := Nat.mul_le_mul (by omega) (by omega)
  rw [h1, pk_mul, nI_add, pk_andN (by omega) 5 (by decide)]
  rfl
