section
/-! rows of the kit to paste: stores, numbers, branches, bits -/
theorem pk_us {f : Nat → Int32} {k : Nat} {x : Int32} : upd f k x k = x := if_pos rfl
theorem pk_un {f : Nat → Int32} {k j : Nat} {x : Int32} (h : j ≠ k) : upd f k x j = f j := if_neg h
theorem pk_sub {a b : Nat} (h : b ≤ a) : nI a - nI b = nI (a - b) := by
  obtain ⟨c, rfl⟩ : ∃ c, a = c + b := ⟨a - b, by omega⟩
  rw [← nI_add, Int32.add_sub_cancel, Nat.add_sub_cancel]
theorem pk_m1 (n : Nat) : nI (n + 1) + (-1) = nI n := by
  rw [← nI_1, Int32.add_assoc, show (1 : Int32) + (-1) = 0 from rfl, Int32.add_zero]
theorem pk_mul (a b : Nat) : nI a * nI b = nI (a * b) := (Int32.ofNat_mul a b).symm
theorem pk_div {a d : Nat} (ha : a < 2 ^ 31) (h0 : 0 < d) (hd : d < 2 ^ 31) : nI a / nI d = nI (a / d) := by
  apply Int32.toInt_inj.mp
  rw [lg_idiv_nonneg (by rw [nI_toInt ha]; omega) (by rw [nI_toInt hd]; omega), nI_toInt ha, nI_toInt hd, nI_toInt (Nat.lt_of_le_of_lt (Nat.div_le_self a d) ha)]
  first | rfl | exact (Int.natCast_ediv _ _).symm
theorem pk_rem {a d : Nat} (ha : a < 2 ^ 31) (h0 : 0 < d) (hd : d < 2 ^ 31) : nI a - nI a / nI d * nI d = nI (a % d) := by
  rw [pk_div ha h0 hd, pk_mul, pk_sub (Nat.div_mul_le_self a d)]
  exact congrArg nI (by have := Nat.div_add_mod' a d; omega)
theorem pk_ix (x : Int32) {n : Nat} (hn : n < 2 ^ 31) : x < 0 ∨ nI n ≤ x ∨ ∃ j : Nat, j < n ∧ x = nI j := by
  by_cases h : x < 0
  · exact Or.inl h
  · obtain ⟨j, hj, rfl⟩ := nI_of h
    by_cases h2 : j < n
    · exact Or.inr (Or.inr ⟨j, h2, rfl⟩)
    · exact Or.inr (Or.inl (nI_le (by omega) hj))
theorem pk_le {x y : Int32} {A B : Prop} (a b : Nat) (f : a ≤ b → A) (g : b < a → B) (hx : x = nI a := by rfl) (hy : y = nI b := by rfl) (ha : a < 2 ^ 31 := by omega) (hb : b < 2 ^ 31 := by omega) : (x ≤ y → A) ∧ (¬ x ≤ y → B) := by
  subst hx hy
  rw [nI_leI ha hb]
  exact ⟨f, fun z => g (by omega)⟩
theorem pk_lt {x y : Int32} {A B : Prop} (a b : Nat) (f : a < b → A) (g : b ≤ a → B) (hx : x = nI a := by rfl) (hy : y = nI b := by rfl) (ha : a < 2 ^ 31 := by omega) (hb : b < 2 ^ 31 := by omega) : (x < y → A) ∧ (¬ x < y → B) := by
  subst hx hy
  rw [nI_ltI ha hb]
  exact ⟨f, fun z => g (by omega)⟩
theorem pk_eq {x y : Int32} {A B : Prop} (a b : Nat) (f : a = b → A) (g : a ≠ b → B) (hx : x = nI a := by rfl) (hy : y = nI b := by rfl) (ha : a < 2 ^ 31 := by omega) (hb : b < 2 ^ 31 := by omega) : (x = y → A) ∧ (¬ x = y → B) := by
  subst hx hy
  rw [nI_eq ha hb]
  exact ⟨f, g⟩
theorem pk_in {x : Int32} (n N : Nat) (h : n < N) (hx : x = nI n := by rfl) (hN : N < 2 ^ 31 := by omega) : vp_in x N := by
  subst hx
  exact vp_in_nI h hN
theorem pk_cl {x : Int32} (n : Nat) (hx : x = nI n := by rfl) (h : n < 2 ^ 31 := by omega) : x.toNatClampNeg = n := by
  subst hx
  exact nI_clamp h
theorem pk_tn {n : Nat} (h : n < 2 ^ 32) : (nI n).toBitVec.toNat = n := Nat.mod_eq_of_lt h
theorem pk_and (x : Int32) {m : Int32} (k : Nat) (hm : m.toBitVec.toNat = 2 ^ k - 1) : x &&& m = nI (x.toBitVec.toNat % 2 ^ k) := by
  apply Int32.toBitVec_inj.mp
  apply BitVec.eq_of_toNat_eq
  rw [Int32.toBitVec_and, BitVec.toNat_and, hm, Nat.and_two_pow_sub_one_eq_mod]
  show _ = (BitVec.ofNat 32 _).toNat
  rw [BitVec.toNat_ofNat]
  exact (Nat.mod_eq_of_lt (Nat.lt_of_le_of_lt (Nat.mod_le _ _) x.toBitVec.isLt)).symm
theorem pk_andN {n : Nat} (h : n < 2 ^ 32) {m : Int32} (k : Nat) (hm : m.toBitVec.toNat = 2 ^ k - 1) : nI n &&& m = nI (n % 2 ^ k) := by
  rw [pk_and _ k hm, pk_tn h]
theorem pk_andE (x : Int32) {m : Int32} (k : Nat) (hm : m.toBitVec.toNat = 2 ^ k - 1) : ∃ j : Nat, j < 2 ^ k ∧ x &&& m = nI j := ⟨_, Nat.mod_lt _ (Nat.two_pow_pos k), pk_and x k hm⟩
theorem pk_andIn (x : Int32) {m : Int32} (k : Nat) (hm : m.toBitVec.toNat = 2 ^ k - 1) (hk : k ≤ 30) : vp_in (x &&& m) (2 ^ k) := by
  obtain ⟨j, hj, e⟩ := pk_andE x k hm
  rw [e]
  exact vp_in_nI hj (Nat.lt_of_le_of_lt (Nat.pow_le_pow_right (by decide) hk) (by decide))
theorem pk_loop {σ : Type} (W : Nat → Nat → σ → Prop) (I : Nat → σ → Prop) (e i0 : Nat) (s : σ) (hi : i0 ≤ e) (h0 : I i0 s) (hx : ∀ n s, I e s → W (n + 1) e s)
    (hs : ∀ n i s, i < e → I i s → (∀ s', I (i + 1) s' → W n (i + 1) s') → W (n + 1) i s) : ∃ n, W n i0 s :=
  ⟨e + 1, loop_i W I e hx hs (e + 1) i0 s hi (by omega) h0⟩
theorem pk_least (P : Nat → Prop) (h : ∃ k, P k) : ∃ k, P k ∧ ∀ j, j < k → ¬ P j := by
  obtain ⟨k, hk⟩ := h
  induction k using Nat.strongRecOn with
  | ind k ih =>
    by_cases e : ∃ j, j < k ∧ P j
    · obtain ⟨j, hj, pj⟩ := e
      exact ih j hj pj
    · exact ⟨k, hk, fun j hj pj => e ⟨j, hj, pj⟩⟩
theorem ek_if {c d A B : Prop} (e : c ↔ d) (f : d → A) (g : ¬ d → B) : (c → A) ∧ (¬ c → B) :=
  ⟨fun z => f (e.mp z), fun z => g (fun y => z (e.mpr y))⟩
theorem ek_v {α : Sort _} {P : α → Prop} {a b : α} (e : a = b) (h : P b) : P a := e ▸ h
def bt (x : Int32) (i : Nat) : Bool := x.toBitVec.getLsbD i
theorem b_ext {x y : Int32} (h : ∀ i, i < 32 → bt x i = bt y i) : x = y := Int32.toBitVec_inj.mp (BitVec.eq_of_getLsbD_eq (fun i hi => h i hi))
theorem b_or (x y : Int32) (i : Nat) : bt (x ||| y) i = (bt x i || bt y i) := by unfold bt; rw [Int32.toBitVec_or, BitVec.getLsbD_or]
theorem b_and (x y : Int32) (i : Nat) : bt (x &&& y) i = (bt x i && bt y i) := by unfold bt; rw [Int32.toBitVec_and, BitVec.getLsbD_and]
theorem b_xor (x y : Int32) (i : Nat) : bt (x ^^^ y) i = (bt x i ^^ bt y i) := by unfold bt; rw [Int32.toBitVec_xor, BitVec.getLsbD_xor]
theorem b_big {x : Int32} {i : Nat} (h : 32 ≤ i) : bt x i = false := BitVec.getLsbD_of_ge _ _ h
theorem b_m1 : ∀ i, i < 32 → bt (-1) i = true := by decide +kernel
theorem b_0 (i : Nat) : bt 0 i = false := BitVec.getLsbD_zero
theorem s_l : ∀ n, n < 32 → ((nI n &&& 31).toBitVec.smod 32).toNat = n := by decide +kernel
theorem s_u : ∀ n, n < 32 → (((nI n).toUInt32 &&& Int32.toUInt32 31).toBitVec % 32).toNat = n := by decide +kernel
theorem b_shl (n : Nat) (hn : n < 32) (x : Int32) {i : Nat} (hi : i < 32) : bt (x <<< (nI n &&& 31)) i = (decide (n ≤ i) && bt x (i - n)) := by
  unfold bt
  rw [Int32.toBitVec_shiftLeft]
  show (x.toBitVec <<< ((nI n &&& 31).toBitVec.smod 32).toNat).getLsbD i = _
  rw [s_l n hn, BitVec.getLsbD_shiftLeft]
  rcases Nat.lt_or_ge i n with h | h
  · simp [h, Nat.not_le.mpr h]
  · simp [hi, h, Nat.not_lt.mpr h]
theorem b_ushr (n : Nat) (hn : n < 32) (x : Int32) (i : Nat) : bt ((x.toUInt32 >>> ((nI n).toUInt32 &&& Int32.toUInt32 31)).toInt32) i = bt x (n + i) := by
  show (x.toUInt32 >>> ((nI n).toUInt32 &&& Int32.toUInt32 31)).toBitVec.getLsbD i = x.toUInt32.toBitVec.getLsbD (n + i)
  rw [UInt32.toBitVec_shiftRight]
  show (x.toUInt32.toBitVec >>> (((nI n).toUInt32 &&& Int32.toUInt32 31).toBitVec % 32).toNat).getLsbD i = _
  rw [s_u n hn, BitVec.getLsbD_ushiftRight]
theorem b_sshr (n : Nat) (hn : n < 32) (x : Int32) {i : Nat} (hi : i < 32) : bt (x >>> (nI n &&& 31)) i = if n + i < 32 then bt x (n + i) else bt x 31 := by
  unfold bt
  rw [Int32.toBitVec_shiftRight]
  show (x.toBitVec.sshiftRight ((nI n &&& 31).toBitVec.smod 32).toNat).getLsbD i = _
  rw [s_l n hn, BitVec.getLsbD_sshiftRight, BitVec.msb_eq_getLsbD_last]
  simp [hi]
/-! bits as Booleans -/
def cf_bi (b : Bool) : Int32 := cond b 1 0
theorem cf_b1 : ∀ i, i < 32 → bt 1 i = decide (i = 0) := by decide +kernel
theorem cf_bb (b : Bool) {i : Nat} (hi : i < 32) : bt (cf_bi b) i = (b && decide (i = 0)) := by
  cases b
  · exact b_0 i
  · show bt 1 i = _
    rw [cf_b1 i hi, Bool.true_and]
theorem cf_bit (x : Int32) {n : Nat} (hn : n < 32) : ((x.toUInt32 >>> ((nI n).toUInt32 &&& Int32.toUInt32 31)).toInt32 &&& 1) = cf_bi (bt x n) := by
  apply b_ext
  intro i hi
  rw [b_and, b_ushr n hn, cf_bb _ hi, cf_b1 i hi]
  by_cases h : i = 0
  · subst h
    rw [Nat.add_zero]
  · rw [decide_eq_false h, Bool.and_false, Bool.and_false]
theorem cf_sit (x : Int32) {n : Nat} (hn : n < 32) : ((x >>> (nI n &&& 31)) &&& 1) = cf_bi (bt x n) := by
  apply b_ext
  intro i hi
  rw [b_and, b_sshr n hn x hi, cf_bb _ hi, cf_b1 i hi]
  by_cases h : i = 0
  · subst h
    rw [Nat.add_zero, if_pos hn]
  · rw [decide_eq_false h, Bool.and_false, Bool.and_false]
theorem cf_bitX {post : Int32 → Prop} {x y : Int32} (n : Nat) (hn : n < 32) (hy : y = nI n) (h : post (cf_bi (bt x n))) : wpX_bit post x y := by
  subst hy
  unfold wpX_bit
  rw [cf_bit x hn]
  exact h
/-! the kinds -/
def cf_mk (K : Nat) (a b c : Bool) : Bool := match K with
  | 0 => a && b
  | 1 => a || b
  | 2 => a ^^ b
  | 3 => !(a && b)
  | 4 => !(a || b)
  | 5 => !(a ^^ b)
  | 6 => !a || b
  | 7 => cond a b c
  | 8 => (a && b) || ((a && c) || (b && c))
  | _ => (a ^^ b) ^^ c
theorem cf_mk7 {K : Nat} (h : K < 7) (a b c d : Bool) : cf_mk K a b c = cf_mk K a b d := by
  match K, h with
  | 0, _ => rfl
  | 1, _ => rfl
  | 2, _ => rfl
  | 3, _ => rfl
  | 4, _ => rfl
  | 5, _ => rfl
  | 6, _ => rfl
theorem cf_e0 : ∀ a b c : Bool, cf_bi a &&& cf_bi b = cf_bi (cf_mk 0 a b c) := by decide
theorem cf_e1 : ∀ a b c : Bool, cf_bi a ||| cf_bi b = cf_bi (cf_mk 1 a b c) := by decide
theorem cf_e2 : ∀ a b c : Bool, cf_bi a ^^^ cf_bi b = cf_bi (cf_mk 2 a b c) := by decide
theorem cf_e3 : ∀ a b c : Bool, 1 - (cf_bi a &&& cf_bi b) = cf_bi (cf_mk 3 a b c) := by decide
theorem cf_e4 : ∀ a b c : Bool, 1 - (cf_bi a ||| cf_bi b) = cf_bi (cf_mk 4 a b c) := by decide
theorem cf_e5 : ∀ a b c : Bool, 1 - (cf_bi a ^^^ cf_bi b) = cf_bi (cf_mk 5 a b c) := by decide
theorem cf_e6 : ∀ a b c : Bool, (1 - cf_bi a) ||| cf_bi b = cf_bi (cf_mk 6 a b c) := by decide
theorem cf_e9 : ∀ a b c : Bool, (cf_bi a ^^^ cf_bi b) ^^^ cf_bi c = cf_bi (cf_mk 9 a b c) := by decide
theorem cf_y0 : ∀ a b c : Bool, cf_bi a * cf_bi b = cf_bi (cf_mk 0 a b c) := by decide
theorem cf_y3 : ∀ a b c : Bool, 1 - (cf_bi a * cf_bi b) = cf_bi (cf_mk 3 a b c) := by decide
theorem cf_y8 : ∀ a b c : Bool, ((cf_bi a + cf_bi b) + cf_bi c) / 2 = cf_bi (cf_mk 8 a b c) := by decide
theorem cf_y9 : ∀ a b c : Bool, ((cf_bi a + cf_bi b) + cf_bi c) - ((cf_bi a + cf_bi b) + cf_bi c) / 2 * 2 = cf_bi (cf_mk 9 a b c) := by decide
end
section
/-! one gate's level on both sides -/
theorem cf_kX {post : Int32 → Prop} {K : Nat} (hK : K < 10) (a b c : Bool) (h : post (cf_bi (cf_mk K a b c))) : wpX_levelOfKind post (nI K) (cf_bi a) (cf_bi b) (cf_bi c) := by
  match K, hK, h with
  | 0, _, h => exact br_f (by decide) (br_f (by decide) (br_t (by decide) (ek_v (cf_e0 a b c) h)))
  | 1, _, h => exact br_f (by decide) (br_f (by decide) (br_f (by decide) (br_t (by decide) (ek_v (cf_e1 a b c) h))))
  | 2, _, h => exact br_f (by decide) (br_f (by decide) (br_f (by decide) (br_f (by decide) (br_t (by decide) (ek_v (cf_e2 a b c) h)))))
  | 3, _, h => exact br_f (by decide) (br_f (by decide) (br_f (by decide) (br_f (by decide) (br_f (by decide) (br_t (by decide) (ek_v (cf_e3 a b c) h))))))
  | 4, _, h => exact br_f (by decide) (br_f (by decide) (br_f (by decide) (br_f (by decide) (br_f (by decide) (br_f (by decide) (br_t (by decide) (ek_v (cf_e4 a b c) h)))))))
  | 5, _, h => exact br_f (by decide) (br_f (by decide) (br_f (by decide) (br_f (by decide) (br_f (by decide) (br_f (by decide) (br_f (by decide) (br_t (by decide) (ek_v (cf_e5 a b c) h))))))))
  | 6, _, h => exact br_f (by decide) (br_f (by decide) (br_f (by decide) (br_f (by decide) (br_f (by decide) (br_f (by decide) (br_f (by decide) (br_f (by decide) (br_t (by decide) (ek_v (cf_e6 a b c) h)))))))))
  | 7, _, h =>
    cases a
    · exact br_f (by decide) (br_f (by decide) (br_f (by decide) (br_f (by decide) (br_f (by decide) (br_f (by decide) (br_f (by decide) (br_f (by decide) (br_f (by decide) (br_t (by decide) (br_f (by decide) h))))))))))
    · exact br_f (by decide) (br_f (by decide) (br_f (by decide) (br_f (by decide) (br_f (by decide) (br_f (by decide) (br_f (by decide) (br_f (by decide) (br_f (by decide) (br_t (by decide) (br_t (by decide) h))))))))))
  | 8, _, h =>
    cases a <;> cases b <;> cases c
    · exact br_f (by decide) (br_f (by decide) (br_f (by decide) (br_f (by decide) (br_f (by decide) (br_f (by decide) (br_f (by decide) (br_f (by decide) (br_f (by decide) (br_f (by decide) (br_t (by decide) (br_t (by decide) h)))))))))))
    · exact br_f (by decide) (br_f (by decide) (br_f (by decide) (br_f (by decide) (br_f (by decide) (br_f (by decide) (br_f (by decide) (br_f (by decide) (br_f (by decide) (br_f (by decide) (br_t (by decide) (br_t (by decide) h)))))))))))
    · exact br_f (by decide) (br_f (by decide) (br_f (by decide) (br_f (by decide) (br_f (by decide) (br_f (by decide) (br_f (by decide) (br_f (by decide) (br_f (by decide) (br_f (by decide) (br_t (by decide) (br_t (by decide) h)))))))))))
    · exact br_f (by decide) (br_f (by decide) (br_f (by decide) (br_f (by decide) (br_f (by decide) (br_f (by decide) (br_f (by decide) (br_f (by decide) (br_f (by decide) (br_f (by decide) (br_t (by decide) (br_f (by decide) h)))))))))))
    · exact br_f (by decide) (br_f (by decide) (br_f (by decide) (br_f (by decide) (br_f (by decide) (br_f (by decide) (br_f (by decide) (br_f (by decide) (br_f (by decide) (br_f (by decide) (br_t (by decide) (br_t (by decide) h)))))))))))
    · exact br_f (by decide) (br_f (by decide) (br_f (by decide) (br_f (by decide) (br_f (by decide) (br_f (by decide) (br_f (by decide) (br_f (by decide) (br_f (by decide) (br_f (by decide) (br_t (by decide) (br_f (by decide) h)))))))))))
    · exact br_f (by decide) (br_f (by decide) (br_f (by decide) (br_f (by decide) (br_f (by decide) (br_f (by decide) (br_f (by decide) (br_f (by decide) (br_f (by decide) (br_f (by decide) (br_t (by decide) (br_f (by decide) h)))))))))))
    · exact br_f (by decide) (br_f (by decide) (br_f (by decide) (br_f (by decide) (br_f (by decide) (br_f (by decide) (br_f (by decide) (br_f (by decide) (br_f (by decide) (br_f (by decide) (br_t (by decide) (br_f (by decide) h)))))))))))
  | 9, _, h => exact br_f (by decide) (br_t (by decide) (ek_v (cf_e9 a b c) h))
theorem cf_kY {post : Int32 → Prop} {f_size : Int32} {f_builtSize : Int32} {f_isBuilt : Int32} {f_given : Int32} {f_state : Int32} {a_gates : Nat → Int32} {a_wires : Nat → Int32} {a_values : Nat → Int32} {a_seen : Nat → Int32} {K : Nat} (hK : K < 10) (a b c : Bool) (h : post (cf_bi (cf_mk K a b c))) : wpY_made post (f_size, f_builtSize, f_isBuilt, f_given, f_state, a_gates, a_wires, a_values, a_seen) (nI K) (cf_bi a) (cf_bi b) (cf_bi c) := by
  match K, hK, h with
  | 0, _, h => exact nm_e (br_t (by decide) (ek_v (cf_y0 a b c) h))
  | 1, _, h =>
    cases a <;> cases b
    · exact nm_e (br_f (by decide) (br_t (by decide) (br_t (by decide) h)))
    · exact nm_e (br_f (by decide) (br_t (by decide) (br_f (by decide) h)))
    · exact nm_e (br_f (by decide) (br_t (by decide) (br_f (by decide) h)))
    · exact nm_e (br_f (by decide) (br_t (by decide) (br_f (by decide) h)))
  | 2, _, h => exact nm_e (br_f (by decide) (br_f (by decide) (br_t (by decide) (ek_v (cf_e2 a b c) h))))
  | 3, _, h => exact nm_e (br_f (by decide) (br_f (by decide) (br_f (by decide) (br_t (by decide) (ek_v (cf_y3 a b c) h)))))
  | 4, _, h =>
    cases a <;> cases b
    · exact nm_e (br_f (by decide) (br_f (by decide) (br_f (by decide) (br_f (by decide) (br_t (by decide) (br_t (by decide) h))))))
    · exact nm_e (br_f (by decide) (br_f (by decide) (br_f (by decide) (br_f (by decide) (br_t (by decide) (br_f (by decide) h))))))
    · exact nm_e (br_f (by decide) (br_f (by decide) (br_f (by decide) (br_f (by decide) (br_t (by decide) (br_f (by decide) h))))))
    · exact nm_e (br_f (by decide) (br_f (by decide) (br_f (by decide) (br_f (by decide) (br_t (by decide) (br_f (by decide) h))))))
  | 5, _, h => exact nm_e (br_f (by decide) (br_f (by decide) (br_f (by decide) (br_f (by decide) (br_f (by decide) (br_t (by decide) (ek_v (cf_e5 a b c) h)))))))
  | 6, _, h =>
    cases a <;> cases b
    · exact nm_e (br_f (by decide) (br_f (by decide) (br_f (by decide) (br_f (by decide) (br_f (by decide) (br_f (by decide) (br_t (by decide) (br_t (by decide) h))))))))
    · exact nm_e (br_f (by decide) (br_f (by decide) (br_f (by decide) (br_f (by decide) (br_f (by decide) (br_f (by decide) (br_t (by decide) (br_t (by decide) h))))))))
    · exact nm_e (br_f (by decide) (br_f (by decide) (br_f (by decide) (br_f (by decide) (br_f (by decide) (br_f (by decide) (br_t (by decide) (br_f (by decide) h))))))))
    · exact nm_e (br_f (by decide) (br_f (by decide) (br_f (by decide) (br_f (by decide) (br_f (by decide) (br_f (by decide) (br_t (by decide) (br_t (by decide) h))))))))
  | 7, _, h =>
    cases a
    · exact nm_e (br_f (by decide) (br_f (by decide) (br_f (by decide) (br_f (by decide) (br_f (by decide) (br_f (by decide) (br_f (by decide) (br_t (by decide) (br_f (by decide) h)))))))))
    · exact nm_e (br_f (by decide) (br_f (by decide) (br_f (by decide) (br_f (by decide) (br_f (by decide) (br_f (by decide) (br_f (by decide) (br_t (by decide) (br_t (by decide) h)))))))))
  | 8, _, h => exact nm_e (br_f (by decide) (br_f (by decide) (br_f (by decide) (br_f (by decide) (br_f (by decide) (br_f (by decide) (br_f (by decide) (br_f (by decide) (br_t (by decide) ⟨by decide, ek_v (cf_y8 a b c) h⟩)))))))))
  | 9, _, h => exact nm_e (br_f (by decide) (br_f (by decide) (br_f (by decide) (br_f (by decide) (br_f (by decide) (br_f (by decide) (br_f (by decide) (br_f (by decide) (br_f (by decide) (⟨by decide, ek_v (cf_y9 a b c) h⟩))))))))))
/-! the table of a kind -/
def cf_tb (K : Nat) : Nat → Int32
  | 0 => 0
  | m + 1 => cf_tb K m ||| (cf_bi (cf_mk K (m.testBit 0) (m.testBit 1) (m.testBit 2)) <<< (nI m &&& 31))
def cf_ix (a b c : Bool) : Nat := a.toNat + 2 * b.toNat + 4 * c.toNat
theorem cf_ix8 : ∀ a b c : Bool, cf_ix a b c < 8 := by decide
theorem cf_ixI : ∀ a b c : Bool, ((cf_bi a ||| (cf_bi b <<< ((1 : Int32) &&& 31))) ||| (cf_bi c <<< ((2 : Int32) &&& 31))) = nI (cf_ix a b c) := by decide
theorem cf_tbx : ∀ K, K < 10 → ∀ a b c : Bool, bt (cf_tb K 8) (cf_ix a b c) = cf_mk K a b c := by decide +kernel
theorem cf_m0 : ∀ m, m < 8 → nI m &&& 1 = cf_bi (m.testBit 0) := by decide +kernel
theorem cf_m1 : ∀ m, m < 8 → (nI m >>> ((1 : Int32) &&& 31)) &&& 1 = cf_bi (m.testBit 1) := by decide +kernel
theorem cf_m2 : ∀ m, m < 8 → nI m >>> ((2 : Int32) &&& 31) = cf_bi (m.testBit 2) := by decide +kernel
theorem cf_tX {post : Int32 → Prop} {K : Nat} (hK : K < 10) (h : post (cf_tb K 8)) : wpX_tableOfKind post (nI K) := by
  refine loop_0 (fun n i s => wX_tableOfKind_4 post (nI K) n s (nI i)) (fun i s => s = cf_tb K i) 8 0 rfl (fun n s hs => br_t (by decide) (by rw [hs]; exact h)) ?_
  intro n i s hi hs k
  refine br_f (nI_ge (b := 8) hi (by decide)) ?_
  rw [cf_m0 i hi, cf_m1 i hi, cf_m2 i hi]
  refine cf_kX hK _ _ _ (nm_e (nm_r (nI_1 i) (k _ ?_)))
  rw [hs]
  rfl
end
section
/-! a circuit: n gates of kinds K over A, B, C; wires w; its levels; the registers' next state -/
def cf_C (n : Nat) (K A B C w : Nat → Nat) : Prop :=
  n ≤ 20 ∧ (∀ g, g < n → K g < 10 ∧ A g < 12 + g ∧ B g < 12 + g ∧ C g < 12 + g) ∧ ∀ j, j < 10 → w j < 12 + n
def cf_vq (e : Nat → Bool) (K A B C : Nat → Nat) : Nat → Nat → Bool
  | 0 => e
  | n + 1 => fun j => if j = 12 + n then cf_mk (K n) (cf_vq e K A B C n (A n)) (cf_vq e K A B C n (B n)) (cf_vq e K A B C n (C n)) else cf_vq e K A B C n j
theorem cf_vs (e : Nat → Bool) (K A B C : Nat → Nat) (m j : Nat) (hj : j < 12 + m) : ∀ n, m ≤ n → cf_vq e K A B C n j = cf_vq e K A B C m j := by
  intro n
  induction n with
  | zero =>
    intro h
    have : m = 0 := by omega
    rw [this]
  | succ n ih =>
    intro h
    by_cases e1 : m = n + 1
    · rw [e1]
    · have h2 : ¬ j = 12 + n := by omega
      show (if j = 12 + n then _ else cf_vq e K A B C n j) = _
      rw [if_neg h2]
      exact ih (by omega)
def cf_ba (x y : Int32) (j : Nat) : Bool := if j < 6 then bt x j else bt y (j - 6)
def cf_V (K A B C : Nat → Nat) (x y : Int32) : Nat → Bool := cf_vq (cf_ba x y) K A B C 20
theorem cf_Vi (K A B C : Nat → Nat) (x y : Int32) {j : Nat} (hj : j < 6) : cf_V K A B C x y j = bt x j := by
  unfold cf_V
  rw [cf_vs _ K A B C 0 j (by omega) 20 (by omega)]
  exact if_pos hj
theorem cf_Vr (K A B C : Nat → Nat) (x y : Int32) {j : Nat} (hj : j < 6) : cf_V K A B C x y (6 + j) = bt y j := by
  unfold cf_V
  rw [cf_vs _ K A B C 0 (6 + j) (by omega) 20 (by omega)]
  show (if 6 + j < 6 then bt x (6 + j) else bt y (6 + j - 6)) = _
  rw [if_neg (by omega), Nat.add_sub_cancel_left]
theorem cf_Vg {n : Nat} {K A B C w : Nat → Nat} (h : cf_C n K A B C w) (x y : Int32) {g : Nat} (hg : g < n) :
    cf_V K A B C x y (12 + g) = cf_mk (K g) (cf_V K A B C x y (A g)) (cf_V K A B C x y (B g)) (cf_V K A B C x y (C g)) := by
  obtain ⟨hn, hG, -⟩ := h
  obtain ⟨-, hA, hB, hC⟩ := hG g hg
  unfold cf_V
  rw [cf_vs _ K A B C (g + 1) (12 + g) (by omega) 20 (by omega), cf_vs _ K A B C g (A g) hA 20 (by omega), cf_vs _ K A B C g (B g) hB 20 (by omega), cf_vs _ K A B C g (C g) hC 20 (by omega)]
  exact if_pos rfl
def cf_ac (b : Nat → Bool) : Nat → Int32
  | 0 => 0
  | n + 1 => cf_ac b n ||| (cf_bi (b n) <<< (nI n &&& 31))
def cf_sn (b : Nat → Bool) : Nat := (b 0).toNat + 2 * (b 1).toNat + 4 * (b 2).toNat + 8 * (b 3).toNat + 16 * (b 4).toNat + 32 * (b 5).toNat
theorem cf_sn64 (b : Nat → Bool) : cf_sn b < 64 := by
  have h0 := Bool.toNat_le (b 0)
  have h1 := Bool.toNat_le (b 1)
  have h2 := Bool.toNat_le (b 2)
  have h3 := Bool.toNat_le (b 3)
  have h4 := Bool.toNat_le (b 4)
  have h5 := Bool.toNat_le (b 5)
  unfold cf_sn
  omega
theorem cf_six : ∀ b0 b1 b2 b3 b4 b5 : Bool, ((((((0 ||| (cf_bi b0 <<< (nI 0 &&& 31))) ||| (cf_bi b1 <<< (nI 1 &&& 31))) ||| (cf_bi b2 <<< (nI 2 &&& 31))) ||| (cf_bi b3 <<< (nI 3 &&& 31))) ||| (cf_bi b4 <<< (nI 4 &&& 31))) ||| (cf_bi b5 <<< (nI 5 &&& 31)))
    = nI (b0.toNat + 2 * b1.toNat + 4 * b2.toNat + 8 * b3.toNat + 16 * b4.toNat + 32 * b5.toNat) := by decide +kernel
theorem cf_ac6 (b : Nat → Bool) : cf_ac b 6 = nI (cf_sn b) := cf_six (b 0) (b 1) (b 2) (b 3) (b 4) (b 5)
def cf_st (K A B C w : Nat → Nat) (x : Int32) (R : Nat) : Nat := cf_sn (fun r => cf_V K A B C x (nI R) (w r))
theorem cf_st64 (K A B C w : Nat → Nat) (x : Int32) (R : Nat) : cf_st K A B C w x R < 64 := cf_sn64 _
/-! levels by place in one int -/
def cf_P (P : Nat → Nat) : Prop := (∀ s, s < 32 → P s < 32) ∧ ∀ s t, s < 32 → t < 32 → P s = P t → s = t
def cf_L (P : Nat → Nat) (V : Nat → Bool) (n : Nat) (L : Int32) : Prop := ∀ s, s < 32 → bt L (P s) = (decide (s < n) && V s)
theorem cf_L0 (P : Nat → Nat) (V : Nat → Bool) : cf_L P V 0 0 := by
  intro s _
  rw [b_0, decide_eq_false (Nat.not_lt_zero s), Bool.false_and]
theorem cf_Lr {P : Nat → Nat} {V : Nat → Bool} {n : Nat} {L : Int32} (h : cf_L P V n L) {s : Nat} (hs : s < n) (h2 : s < 32) : bt L (P s) = V s := by
  rw [h s h2, decide_eq_true hs, Bool.true_and]
theorem cf_Ls {P : Nat → Nat} {V : Nat → Bool} {n : Nat} {L : Int32} (hP : cf_P P) (h : cf_L P V n L) (hn : n < 32) :
    cf_L P V (n + 1) (L ||| (cf_bi (V n) <<< (nI (P n) &&& 31))) := by
  intro s hs
  have h1 := hP.1 s hs
  rw [b_or, h s hs, b_shl (P n) (hP.1 n hn) _ h1, cf_bb _ (by omega)]
  by_cases e : s = n
  · subst e
    rw [decide_eq_false (Nat.lt_irrefl s), decide_eq_true (Nat.lt_succ_self s), decide_eq_true (Nat.le_refl (P s)), Nat.sub_self, decide_eq_true (rfl : (0 : Nat) = 0)]
    cases V s <;> rfl
  · have h3 : ¬ P s = P n := fun z => e (hP.2 s n hs hn z)
    have h4 : (decide (P n ≤ P s) && (V n && decide (P s - P n = 0))) = false := by
      by_cases h5 : P n ≤ P s
      · rw [decide_eq_false (show ¬ P s - P n = 0 by omega), Bool.and_false, Bool.and_false]
      · rw [decide_eq_false h5, Bool.false_and]
    rw [h4, Bool.or_false]
    have h6 : (s < n + 1) ↔ (s < n) := by omega
    rw [decide_eq_decide.mpr h6]
/-! a function on the states below 64: its tail and its loop -/
theorem cf_hole : ∀ (n : Nat) (f : Nat → Nat), (∀ i, i ≤ n → f i < n) → ∃ i j, i < j ∧ j ≤ n ∧ f i = f j := by
  intro n
  induction n with
  | zero =>
    intro f h
    exact absurd (h 0 (Nat.le_refl 0)) (Nat.not_lt_zero _)
  | succ n ih =>
    intro f h
    by_cases hc : ∃ i, i ≤ n ∧ f i = f (n + 1)
    · obtain ⟨i, h1, h2⟩ := hc
      exact ⟨i, n + 1, by omega, Nat.le_refl _, h2⟩
    · have hc' : ∀ i, i ≤ n → f i ≠ f (n + 1) := fun i h1 h2 => hc ⟨i, h1, h2⟩
      have hl := h (n + 1) (Nat.le_refl _)
      obtain ⟨i, j, hij, hj, e⟩ := ih (fun i => if f i = n then f (n + 1) else f i) (by
        intro i hi
        have a1 := h i (by omega)
        have a2 := hc' i hi
        show (if f i = n then f (n + 1) else f i) < n
        split <;> omega)
      refine ⟨i, j, hij, by omega, ?_⟩
      have b1 := hc' i (by omega)
      have b2 := hc' j hj
      have e' : (if f i = n then f (n + 1) else f i) = (if f j = n then f (n + 1) else f j) := e
      revert e'
      split <;> split <;> intro e' <;> omega
def cf_it (f : Nat → Nat) (s : Nat) : Nat → Nat
  | 0 => s
  | n + 1 => f (cf_it f s n)
theorem cf_itA (f : Nat → Nat) (s a : Nat) : ∀ b, cf_it f (cf_it f s a) b = cf_it f s (a + b) := by
  intro b
  induction b with
  | zero => rfl
  | succ b ih =>
    show f (cf_it f (cf_it f s a) b) = f (cf_it f s (a + b))
    rw [ih]
theorem cf_it64 {f : Nat → Nat} (hf : ∀ s, f s < 64) {s : Nat} (hs : s < 64) : ∀ n, cf_it f s n < 64 := by
  intro n
  cases n with
  | zero => exact hs
  | succ n => exact hf _
/-- e is the first step that comes back, to step t -/
def cf_Lo (f : Nat → Nat) (s t e : Nat) : Prop :=
  t < e ∧ e ≤ 64 ∧ cf_it f s e = cf_it f s t ∧ ∀ i j, i < j → j < e → cf_it f s i ≠ cf_it f s j
theorem cf_lo {f : Nat → Nat} (hf : ∀ s, f s < 64) {s : Nat} (hs : s < 64) : ∃ t e, cf_Lo f s t e := by
  obtain ⟨i, j, hij, hj, e⟩ := cf_hole 64 (cf_it f s) (fun i _ => cf_it64 hf hs i)
  obtain ⟨m, ⟨⟨i', h1, h2⟩, hm⟩, hl⟩ := pk_least (fun e => (∃ t, t < e ∧ cf_it f s t = cf_it f s e) ∧ e ≤ 64) ⟨j, ⟨i, hij, e⟩, hj⟩
  exact ⟨i', m, h1, hm, h2.symm, fun a b hab hb z => hl b hb ⟨⟨a, hab, z⟩, by omega⟩⟩
/-! a long as a set of states -/
def cf_bl (x : Int64) (i : Nat) : Bool := x.toBitVec.getLsbD i
theorem cf_mkT : ∀ k, k < 64 → ((1 : Int64) <<< ((nI k).toInt64 &&& 63)).toBitVec = BitVec.twoPow 64 k := by decide +kernel
theorem cf_blA (x : Int64) {k : Nat} (hk : k < 64) : (x &&& ((1 : Int64) <<< ((nI k).toInt64 &&& 63))) = 0 ↔ cf_bl x k = false := by
  rw [← Int64.toBitVec_inj, Int64.toBitVec_and, cf_mkT k hk, BitVec.and_twoPow]
  unfold cf_bl
  cases h : x.toBitVec.getLsbD k
  · exact ⟨fun _ => rfl, fun _ => rfl⟩
  · constructor
    · intro z
      have z2 : (BitVec.twoPow 64 k).getLsbD k = (0#64).getLsbD k := by
        have z3 : BitVec.twoPow 64 k = 0#64 := z
        rw [z3]
      rw [BitVec.getLsbD_twoPow, BitVec.getLsbD_zero] at z2
      simp [hk] at z2
    · intro z
      exact absurd z (by decide)
theorem cf_blO (x : Int64) {k i : Nat} (hk : k < 64) (hi : i < 64) : cf_bl (x ||| ((1 : Int64) <<< ((nI k).toInt64 &&& 63))) i = (cf_bl x i || decide (k = i)) := by
  unfold cf_bl
  rw [Int64.toBitVec_or, BitVec.getLsbD_or, cf_mkT k hk, BitVec.getLsbD_twoPow]
  by_cases e : k = i
  · subst e
    simp [hi]
  · simp [e]
/-! places by an odd stride -/
def cf_pl (c s : Nat) : Nat := (c + s * (2 * c + 1)) % 32
theorem cf_odd : ∀ d, d < 16 → ((2 * d + 1) * (2 * d + 1) ^ 7) % 32 = 1 := by decide
theorem cf_inv (c : Nat) : ∃ e q, (2 * c + 1) * e = 32 * q + 1 := by
  have h := cf_odd (c % 16) (Nat.mod_lt _ (by decide))
  generalize he : (2 * (c % 16) + 1) ^ 7 = e at h
  refine ⟨e, ((2 * c + 1) * e) / 32, ?_⟩
  have h2 : 2 * c + 1 = 32 * (c / 16) + (2 * (c % 16) + 1) := by omega
  have h3 : ((2 * c + 1) * e) % 32 = 1 := by
    rw [h2, Nat.add_mul, Nat.mul_assoc, Nat.mul_add_mod]
    exact h
  generalize (2 * c + 1) * e = z at h3 ⊢
  omega
theorem cf_modm {k q s : Nat} (e : Nat) (h : k * e = 32 * q + 1) : (s * k * e) % 32 = s % 32 := by
  rw [Nat.mul_assoc, h, Nat.mul_add, Nat.mul_one, ← Nat.mul_assoc, Nat.mul_comm s 32, Nat.mul_assoc, Nat.mul_add_mod]
theorem cf_pinj (c : Nat) {s t : Nat} (hs : s < 32) (ht : t < 32) (h : cf_pl c s = cf_pl c t) : s = t := by
  obtain ⟨e, q, he⟩ := cf_inv c
  unfold cf_pl at h
  have h1 : (s * (2 * c + 1)) % 32 = (t * (2 * c + 1)) % 32 := by
    generalize s * (2 * c + 1) = a at h ⊢
    generalize t * (2 * c + 1) = b at h ⊢
    omega
  have h2 : (s * (2 * c + 1) * e) % 32 = (t * (2 * c + 1) * e) % 32 := by
    rw [Nat.mul_mod, h1, ← Nat.mul_mod]
  rw [cf_modm e he, cf_modm e he] at h2
  omega
theorem cf_plP (c : Nat) : cf_P (cf_pl c) := ⟨fun _ _ => Nat.mod_lt _ (by decide), fun _ _ hs ht h => cf_pinj c hs ht h⟩
theorem cf_plI {c s : Nat} (hc : c ≤ 1000) (hs : s < 32) : (nI c + (nI s * (2 * nI c + 1))) &&& 31 = nI (cf_pl c s) := by
  have h1 : 2 * nI c + 1 = nI (2 * c + 1) := by
    have : (2 : Int32) * nI c = nI (2 * c) := pk_mul 2 c
    rw [this, nI_1]
  have h2 : s * (2 * c + 1) ≤ 31 * 2001 := Nat.mul_le_mul (by omega) (by omega)
  rw [h1, pk_mul, nI_add, pk_andN (by omega) 5 (by decide)]
  rfl
end
section
/-! the device on both sides -/
def cf_D (m : Nat) (K A B C w P : Nat → Nat) (plc tab w1 w2 w3 wr wo : Nat → Int32) : Prop :=
  cf_P P ∧ (∀ s, s < 32 → plc s = nI (P s)) ∧
  (∀ g, g < m → tab (P (12 + g)) = cf_tb (K g) 8 ∧ w1 (P (12 + g)) = nI (P (A g)) ∧ w2 (P (12 + g)) = nI (P (B g)) ∧ w3 (P (12 + g)) = nI (P (if K g < 7 then A g else C g))) ∧
  (∀ r, r < 6 → wr r = nI (P (w r))) ∧ ∀ o, o < 4 → wo o = nI (P (w (6 + o)))
/-- the reference's circuit, from o4 on in gates and from ow on in wires -/
def cf_Y (o4 ow n : Nat) (K A B C w : Nat → Nat) (gts wrs : Nat → Int32) : Prop :=
  (∀ g, g < n → gts (o4 + 4 * g) = nI (K g) ∧ gts (o4 + 4 * g + 1) = nI (A g) ∧ gts (o4 + 4 * g + 2) = nI (B g) ∧ gts (o4 + 4 * g + 3) = nI (C g)) ∧ ∀ j, j < 10 → wrs (ow + j) = nI (w j)
theorem cf_12 (a : Nat) : 12 + nI a = nI (12 + a) := nI_add 12 a
theorem cf_6 (a : Nat) : 6 + nI a = nI (6 + a) := nI_add 6 a
theorem cf_10 (a : Nat) : 10 + nI a = nI (10 + a) := nI_add 10 a
theorem cf_16 (a : Nat) : 16 + nI a = nI (16 + a) := nI_add 16 a
theorem cf_80 (a : Nat) : 80 + nI a = nI (80 + a) := nI_add 80 a
theorem cf_4m (a : Nat) : 4 * nI a = nI (4 * a) := pk_mul 4 a
theorem cf_a1 (a : Nat) : nI a + 1 = nI (a + 1) := nI_add a 1
theorem cf_a2 (a : Nat) : nI a + 2 = nI (a + 2) := nI_add a 2
theorem cf_a3 (a : Nat) : nI a + 3 = nI (a + 3) := nI_add a 3
theorem cf_in {x : Int32} {n N : Nat} (hx : x = nI n) (h : n < N) (hN : N < 2 ^ 31) : vp_in x N := by
  subst hx
  exact vp_in_nI h hN
theorem cf_at {f : Nat → Int32} {x y : Int32} {n : Nat} (hx : x = nI n) (hn : n < 2 ^ 31) (hf : f n = y) : f x.toNatClampNeg = y := by
  subst hx
  rw [nI_clamp hn]
  exact hf
section CFX
variable {m : Nat} {K A B C w P : Nat → Nat}
variable {f_gates : Int32} {f_hasDevice : Int32} {f_inputLevels : Int32} {f_registerLevels : Int32} {a_kindOfGate : Nat → Int32} {a_firstOfGate : Nat → Int32} {a_secondOfGate : Nat → Int32} {a_thirdOfGate : Nat → Int32} {a_nextOfRegister : Nat → Int32} {a_shownByOutput : Nat → Int32} {a_placeOfSignal : Nat → Int32} {a_tableOfCell : Nat → Int32} {a_firstWireOfCell : Nat → Int32} {a_secondWireOfCell : Nat → Int32} {a_thirdWireOfCell : Nat → Int32} {a_wireOfRegister : Nat → Int32} {a_wireOfOutput : Nat → Int32}
theorem cf_cellX {post : Int32 → Prop} {f_cells : Int32} (hC : cf_C m K A B C w) (hD : cf_D m K A B C w P a_placeOfSignal a_tableOfCell a_firstWireOfCell a_secondWireOfCell a_thirdWireOfCell a_wireOfRegister a_wireOfOutput)
    (x y : Int32) {g : Nat} (hg : g < m) {L : Int32} (hL : cf_L P (cf_V K A B C x y) (12 + g) L) (h : post (cf_bi (cf_V K A B C x y (12 + g)))) :
    wpX_levelOfCell post (f_gates, f_hasDevice, f_cells, f_inputLevels, f_registerLevels, a_kindOfGate, a_firstOfGate, a_secondOfGate, a_thirdOfGate, a_nextOfRegister, a_shownByOutput, a_placeOfSignal, a_tableOfCell, a_firstWireOfCell, a_secondWireOfCell, a_thirdWireOfCell, a_wireOfRegister, a_wireOfOutput) (nI (P (12 + g))) L := by
  obtain ⟨hK, hA, hB, hc⟩ := hC.2.1 g hg
  have hm := hC.1
  obtain ⟨hP, hpl, hG, -, -⟩ := hD
  obtain ⟨h1, h2, h3, h4⟩ := hG g hg
  have p32 := hP.1 (12 + g) (by omega)
  have hin : vp_in (nI (P (12 + g))) 32 := vp_in_nI p32 (by decide)
  have hc' : (if K g < 7 then A g else C g) < 12 + g := by split <;> assumption
  refine ⟨hin, cf_bitX (P (A g)) (hP.1 _ (by omega)) (cf_at rfl (by omega) h2) ⟨hin, cf_bitX (P (B g)) (hP.1 _ (by omega)) (cf_at rfl (by omega) h3) ⟨hin, cf_bitX (P (if K g < 7 then A g else C g)) (hP.1 _ (by omega)) (cf_at rfl (by omega) h4) ⟨hin, ?_⟩⟩⟩⟩
  rw [cf_Lr hL hA (by omega), cf_Lr hL hB (by omega), cf_Lr hL hc' (by omega)]
  refine cf_bitX _ (Nat.lt_of_lt_of_le (cf_ix8 _ _ _) (by decide)) (cf_ixI _ _ _) ?_
  rw [nI_clamp (by omega), h1, cf_tbx (K g) hK]
  rw [cf_Vg hC x y hg] at h
  have e : cf_mk (K g) (cf_V K A B C x y (A g)) (cf_V K A B C x y (B g)) (cf_V K A B C x y (if K g < 7 then A g else C g)) = cf_mk (K g) (cf_V K A B C x y (A g)) (cf_V K A B C x y (B g)) (cf_V K A B C x y (C g)) := by
    by_cases h7 : K g < 7
    · exact cf_mk7 h7 _ _ _ _
    · rw [if_neg h7]
  rw [e]
  exact h
theorem cf_lv68 {post : Int32 → Prop} (hC : cf_C m K A B C w) (hD : cf_D m K A B C w P a_placeOfSignal a_tableOfCell a_firstWireOfCell a_secondWireOfCell a_thirdWireOfCell a_wireOfRegister a_wireOfOutput)
    (x y : Int32) {L : Int32} (hL : cf_L P (cf_V K A B C x y) 12 L) (h : ∀ L', cf_L P (cf_V K A B C x y) (12 + m) L' → post L') :
    ∃ n, wX_levelsOfPlaces_68 post f_gates f_hasDevice (nI m) f_inputLevels f_registerLevels a_kindOfGate a_firstOfGate a_secondOfGate a_thirdOfGate a_nextOfRegister a_shownByOutput a_placeOfSignal a_tableOfCell a_firstWireOfCell a_secondWireOfCell a_thirdWireOfCell a_wireOfRegister a_wireOfOutput n L 0 := by
  have hm := hC.1
  refine loop_0 (fun n i L => wX_levelsOfPlaces_68 post f_gates f_hasDevice (nI m) f_inputLevels f_registerLevels a_kindOfGate a_firstOfGate a_secondOfGate a_thirdOfGate a_nextOfRegister a_shownByOutput a_placeOfSignal a_tableOfCell a_firstWireOfCell a_secondWireOfCell a_thirdWireOfCell a_wireOfRegister a_wireOfOutput n L (nI i)) (fun i L => cf_L P (cf_V K A B C x y) (12 + i) L) m L hL (fun n L hL => br_t (nI_le (Nat.le_refl m) (by omega)) (h L hL)) ?_
  intro n i L hi hL k
  refine br_f (nI_ge hi (by omega)) ⟨cf_in (cf_12 i) (by omega) (by decide), nm_r (cf_at (cf_12 i) (by omega) (hD.2.1 (12 + i) (by omega))) ?_⟩
  refine cf_cellX hC hD x y hi hL (nm_e (nm_r (nI_1 i) (k _ ?_)))
  exact cf_Ls (n := 12 + i) hD.1 hL (by omega)
theorem cf_lv36 {post : Int32 → Prop} (hC : cf_C m K A B C w) (hD : cf_D m K A B C w P a_placeOfSignal a_tableOfCell a_firstWireOfCell a_secondWireOfCell a_thirdWireOfCell a_wireOfRegister a_wireOfOutput)
    (x y : Int32) {L : Int32} (hL : cf_L P (cf_V K A B C x y) 6 L) (h : ∀ L', cf_L P (cf_V K A B C x y) (12 + m) L' → post L') :
    ∃ n, wX_levelsOfPlaces_36 post y f_gates f_hasDevice (nI m) f_inputLevels f_registerLevels a_kindOfGate a_firstOfGate a_secondOfGate a_thirdOfGate a_nextOfRegister a_shownByOutput a_placeOfSignal a_tableOfCell a_firstWireOfCell a_secondWireOfCell a_thirdWireOfCell a_wireOfRegister a_wireOfOutput n L 0 := by
  refine loop_0 (fun n i L => wX_levelsOfPlaces_36 post y f_gates f_hasDevice (nI m) f_inputLevels f_registerLevels a_kindOfGate a_firstOfGate a_secondOfGate a_thirdOfGate a_nextOfRegister a_shownByOutput a_placeOfSignal a_tableOfCell a_firstWireOfCell a_secondWireOfCell a_thirdWireOfCell a_wireOfRegister a_wireOfOutput n L (nI i)) (fun i L => cf_L P (cf_V K A B C x y) (6 + i) L) 6 L hL (fun n L hL => br_t (by decide) (cf_lv68 hC hD x y hL h)) ?_
  intro n i L hi hL k
  refine br_f (nI_ge (b := 6) hi (by decide)) (cf_bitX i (by omega) rfl ⟨cf_in (cf_6 i) (by omega) (by decide), nm_e (nm_r (nI_1 i) (k _ ?_))⟩)
  rw [cf_at (cf_6 i) (by omega) (hD.2.1 (6 + i) (by omega)), ← cf_Vr K A B C x y hi]
  exact cf_Ls (n := 6 + i) hD.1 hL (by omega)
theorem cf_lvX {post : Int32 → Prop} (hC : cf_C m K A B C w) (hD : cf_D m K A B C w P a_placeOfSignal a_tableOfCell a_firstWireOfCell a_secondWireOfCell a_thirdWireOfCell a_wireOfRegister a_wireOfOutput)
    (y : Int32) (h : ∀ L', cf_L P (cf_V K A B C f_inputLevels y) (12 + m) L' → post L') :
    wpX_levelsOfPlaces post (f_gates, f_hasDevice, nI m, f_inputLevels, f_registerLevels, a_kindOfGate, a_firstOfGate, a_secondOfGate, a_thirdOfGate, a_nextOfRegister, a_shownByOutput, a_placeOfSignal, a_tableOfCell, a_firstWireOfCell, a_secondWireOfCell, a_thirdWireOfCell, a_wireOfRegister, a_wireOfOutput) y := by
  refine loop_0 (fun n i L => wX_levelsOfPlaces_4 post y f_gates f_hasDevice (nI m) f_inputLevels f_registerLevels a_kindOfGate a_firstOfGate a_secondOfGate a_thirdOfGate a_nextOfRegister a_shownByOutput a_placeOfSignal a_tableOfCell a_firstWireOfCell a_secondWireOfCell a_thirdWireOfCell a_wireOfRegister a_wireOfOutput n L (nI i)) (fun i L => cf_L P (cf_V K A B C f_inputLevels y) i L) 6 0 (cf_L0 _ _) (fun n L hL => br_t (by decide) (cf_lv36 hC hD f_inputLevels y hL h)) ?_
  intro n i L hi hL k
  refine br_f (nI_ge (b := 6) hi (by decide)) (cf_bitX i (by omega) rfl ⟨vp_in_nI (by omega) (by decide), nm_e (nm_r (nI_1 i) (k _ ?_))⟩)
  rw [cf_at rfl (by omega) (hD.2.1 i (by omega)), ← cf_Vi K A B C f_inputLevels y hi]
  exact cf_Ls hD.1 hL (by omega)
theorem cf_afX {post : Int32 → Prop} (hC : cf_C m K A B C w) (hD : cf_D m K A B C w P a_placeOfSignal a_tableOfCell a_firstWireOfCell a_secondWireOfCell a_thirdWireOfCell a_wireOfRegister a_wireOfOutput)
    (R : Nat) (h : post (nI (cf_st K A B C w f_inputLevels R))) :
    wpX_registersAfter post (f_gates, f_hasDevice, nI m, f_inputLevels, f_registerLevels, a_kindOfGate, a_firstOfGate, a_secondOfGate, a_thirdOfGate, a_nextOfRegister, a_shownByOutput, a_placeOfSignal, a_tableOfCell, a_firstWireOfCell, a_secondWireOfCell, a_thirdWireOfCell, a_wireOfRegister, a_wireOfOutput) (nI R) := by
  refine cf_lvX (post := fun r_1 => ∃ n11 : Nat, wX_registersAfter_11 post r_1 f_gates f_hasDevice (nI m) f_inputLevels f_registerLevels a_kindOfGate a_firstOfGate a_secondOfGate a_thirdOfGate a_nextOfRegister a_shownByOutput a_placeOfSignal a_tableOfCell a_firstWireOfCell a_secondWireOfCell a_thirdWireOfCell a_wireOfRegister a_wireOfOutput n11 0 0) hC hD (nI R) ?_
  intro L hL
  have hm := hC.1
  refine loop_0 (fun n i s => wX_registersAfter_11 post L f_gates f_hasDevice (nI m) f_inputLevels f_registerLevels a_kindOfGate a_firstOfGate a_secondOfGate a_thirdOfGate a_nextOfRegister a_shownByOutput a_placeOfSignal a_tableOfCell a_firstWireOfCell a_secondWireOfCell a_thirdWireOfCell a_wireOfRegister a_wireOfOutput n s (nI i)) (fun i s => s = cf_ac (fun r => cf_V K A B C f_inputLevels (nI R) (w r)) i) 6 0 rfl (fun n s hs => br_t (by decide) (by rw [hs, cf_ac6]; exact h)) ?_
  intro n i s hi hs k
  have hw := hC.2.2 i (by omega)
  refine br_f (nI_ge (b := 6) hi (by decide)) ⟨vp_in_nI hi (by decide), cf_bitX (P (w i)) (hD.1.1 _ (by omega)) (cf_at rfl (by omega) (hD.2.2.2.1 i hi)) (nm_e (nm_r (nI_1 i) (k _ ?_)))⟩
  rw [hs, cf_Lr hL hw (by omega)]
  rfl
theorem cf_shX {post : Int32 → Prop} (hC : cf_C m K A B C w) (hD : cf_D m K A B C w P a_placeOfSignal a_tableOfCell a_firstWireOfCell a_secondWireOfCell a_thirdWireOfCell a_wireOfRegister a_wireOfOutput)
    (h : post (cf_ac (fun o => cf_V K A B C f_inputLevels f_registerLevels (w (6 + o))) 4)) :
    wpX_shownLevels post (f_gates, f_hasDevice, nI m, f_inputLevels, f_registerLevels, a_kindOfGate, a_firstOfGate, a_secondOfGate, a_thirdOfGate, a_nextOfRegister, a_shownByOutput, a_placeOfSignal, a_tableOfCell, a_firstWireOfCell, a_secondWireOfCell, a_thirdWireOfCell, a_wireOfRegister, a_wireOfOutput) := by
  refine cf_lvX (post := fun r_1 => ∃ n13 : Nat, wX_shownLevels_13 post r_1 f_gates f_hasDevice (nI m) f_inputLevels f_registerLevels a_kindOfGate a_firstOfGate a_secondOfGate a_thirdOfGate a_nextOfRegister a_shownByOutput a_placeOfSignal a_tableOfCell a_firstWireOfCell a_secondWireOfCell a_thirdWireOfCell a_wireOfRegister a_wireOfOutput n13 0 0) hC hD f_registerLevels ?_
  intro L hL
  have hm := hC.1
  refine loop_0 (fun n i s => wX_shownLevels_13 post L f_gates f_hasDevice (nI m) f_inputLevels f_registerLevels a_kindOfGate a_firstOfGate a_secondOfGate a_thirdOfGate a_nextOfRegister a_shownByOutput a_placeOfSignal a_tableOfCell a_firstWireOfCell a_secondWireOfCell a_thirdWireOfCell a_wireOfRegister a_wireOfOutput n s (nI i)) (fun i s => s = cf_ac (fun o => cf_V K A B C f_inputLevels f_registerLevels (w (6 + o))) i) 4 0 rfl (fun n s hs => br_t (by decide) (by rw [hs]; exact h)) ?_
  intro n i s hi hs k
  have hw := hC.2.2 (6 + i) (by omega)
  refine br_f (nI_ge (b := 4) hi (by decide)) ⟨vp_in_nI hi (by decide), cf_bitX (P (w (6 + i))) (hD.1.1 _ (by omega)) (cf_at rfl (by omega) (hD.2.2.2.2 i hi)) (nm_e (nm_r (nI_1 i) (k _ ?_)))⟩
  rw [hs, cf_Lr hL hw (by omega)]
  rfl
end CFX
section CFY
variable {m : Nat} {K A B C w : Nat → Nat}
variable {f_size : Int32} {f_isBuilt : Int32} {f_given : Int32} {f_state : Int32} {a_gates : Nat → Int32} {a_wires : Nat → Int32} {a_values : Nat → Int32} {a_seen : Nat → Int32}
theorem cf_wk44 {post : SY → Prop} (hC : cf_C m K A B C w) (hY : cf_Y 80 10 m K A B C w a_gates a_wires) (x y : Int32)
    (h0 : ∀ s, s < 12 → a_values s = cf_bi (cf_V K A B C x y s)) (h : ∀ val : Nat → Int32, (∀ s, s < 12 + m → val s = cf_bi (cf_V K A B C x y s)) → post (f_size, nI m, f_isBuilt, f_given, f_state, a_gates, a_wires, val, a_seen)) :
    ∃ n, wY_work_44 post f_size (nI m) f_isBuilt f_given f_state n 0 a_gates a_wires a_values a_seen := by
  have hm := hC.1
  refine loop_0 (fun n i val => wY_work_44 post f_size (nI m) f_isBuilt f_given f_state n (nI i) a_gates a_wires val a_seen) (fun i val => ∀ s, s < 12 + i → val s = cf_bi (cf_V K A B C x y s)) m a_values h0 (fun n val hv => br_t (nI_le (Nat.le_refl m) (by omega)) (h val hv)) ?_
  intro n i val hi hv k
  obtain ⟨hK, hA, hB, hc⟩ := hC.2.1 i hi
  obtain ⟨g0, g1, g2, g3⟩ := hY.1 i hi
  have e0 : 80 + 4 * nI i = nI (80 + 4 * i) := by rw [cf_4m, cf_80]
  refine br_f (nI_ge hi (by omega)) (nm_r e0 ?_)
  refine ⟨vp_in_nI (by omega) (by decide), cf_in (cf_a1 _) (by omega) (by decide), cf_in (cf_at (cf_a1 _) (by omega) g1) (by omega) (by decide), cf_in (cf_a2 _) (by omega) (by decide), cf_in (cf_at (cf_a2 _) (by omega) g2) (by omega) (by decide), cf_in (cf_a3 _) (by omega) (by decide), cf_in (cf_at (cf_a3 _) (by omega) g3) (by omega) (by decide), ?_⟩
  rw [cf_at rfl (by omega) g0, cf_at (cf_at (cf_a1 _) (by omega) g1) (by omega) (hv _ (by omega)), cf_at (cf_at (cf_a2 _) (by omega) g2) (by omega) (hv _ (by omega)), cf_at (cf_at (cf_a3 _) (by omega) g3) (by omega) (hv _ (by omega))]
  refine cf_kY hK _ _ _ ⟨cf_in (cf_12 i) (by omega) (by decide), nm_e (nm_r (nI_1 i) (k _ ?_))⟩
  intro s hs
  rw [← cf_Vg hC x y hi, pk_cl (12 + i) (cf_12 i) (by omega)]
  by_cases e : s = 12 + i
  · subst e
    exact pk_us
  · rw [pk_un e]
    exact hv s (by omega)
theorem cf_wkY {post : SY → Prop} (hC : cf_C m K A B C w) (hY : cf_Y 80 10 m K A B C w a_gates a_wires) (y : Int32)
    (h : ∀ val : Nat → Int32, (∀ s, s < 12 + m → val s = cf_bi (cf_V K A B C f_given y s)) → post (f_size, nI m, f_isBuilt, f_given, f_state, a_gates, a_wires, val, a_seen)) :
    wpY_work post (f_size, nI m, f_isBuilt, f_given, f_state, a_gates, a_wires, a_values, a_seen) y := by
  refine loop_0 (fun n i val => wY_work_2 post y f_size (nI m) f_isBuilt f_given f_state n (nI i) a_gates a_wires val a_seen) (fun i val => ∀ j, j < i → val j = cf_bi (cf_V K A B C f_given y j) ∧ val (6 + j) = cf_bi (cf_V K A B C f_given y (6 + j))) 6 a_values (fun j hj => absurd hj (Nat.not_lt_zero j)) ?_ ?_
  · intro n val hv
    refine br_t (by decide) (cf_wk44 hC hY f_given y ?_ h)
    intro s hs
    by_cases h6 : s < 6
    · exact (hv s h6).1
    · have := (hv (s - 6) (by omega)).2
      rw [show 6 + (s - 6) = s by omega] at this
      exact this
  · intro n i val hi hv k
    refine br_f (nI_ge (b := 6) hi (by decide)) ⟨vp_in_nI (by omega) (by decide), nm_e ⟨cf_in (cf_6 i) (by omega) (by decide), nm_e (nm_r (nI_1 i) (k _ ?_))⟩⟩
    intro j hj
    rw [cf_sit f_given (show i < 32 by omega), cf_sit y (show i < 32 by omega), nI_clamp (show i < 2 ^ 31 by omega), pk_cl (6 + i) (cf_6 i) (by omega)]
    by_cases e : j = i
    · subst e
      refine ⟨?_, ?_⟩
      · rw [pk_un (by omega), pk_us, cf_Vi K A B C f_given y hi]
      · rw [pk_us, cf_Vr K A B C f_given y hi]
    · rw [pk_un (by omega), pk_un e, pk_un (by omega), pk_un (by omega)]
      exact hv j (by omega)
theorem cf_foY {post : Int32 → SY → Prop} (hC : cf_C m K A B C w) (hY : cf_Y 80 10 m K A B C w a_gates a_wires) (R : Nat)
    (h : ∀ val : Nat → Int32, post (nI (cf_st K A B C w f_given R)) (f_size, nI m, f_isBuilt, f_given, f_state, a_gates, a_wires, val, a_seen)) :
    wpY_following post (f_size, nI m, f_isBuilt, f_given, f_state, a_gates, a_wires, a_values, a_seen) (nI R) := by
  unfold wpY_following
  dsimp only
  refine cf_wkY hC hY (nI R) ?_
  intro val hv
  dsimp only
  have hm := hC.1
  refine loop_0 (fun n i s => wY_following_9 post f_size (nI m) f_isBuilt f_given f_state a_gates a_wires val a_seen n s (nI i)) (fun i s => s = cf_ac (fun r => cf_V K A B C f_given (nI R) (w r)) i) 6 0 rfl (fun n s hs => br_t (by decide) (by rw [hs, cf_ac6]; exact h val)) ?_
  intro n i s hi hs k
  have hw := hC.2.2 i (by omega)
  have e1 := cf_at (cf_10 i) (by omega) (hY.2 i (by omega))
  refine br_f (nI_ge (b := 6) hi (by decide)) ⟨cf_in (cf_10 i) (by omega) (by decide), cf_in e1 (by omega) (by decide), nm_e (nm_r (nI_1 i) (k _ ?_))⟩
  rw [cf_at e1 (by omega) (hv _ hw), hs]
  rfl
theorem cf_ouY {post : Int32 → SY → Prop} (hb : ¬ f_isBuilt = 0) (hC : cf_C m K A B C w) (hY : cf_Y 80 10 m K A B C w a_gates a_wires)
    (h : ∀ val : Nat → Int32, post (cf_ac (fun o => cf_V K A B C f_given f_state (w (6 + o))) 4) (f_size, nI m, f_isBuilt, f_given, f_state, a_gates, a_wires, val, a_seen)) :
    wpY_outputs post (f_size, nI m, f_isBuilt, f_given, f_state, a_gates, a_wires, a_values, a_seen) := by
  refine br_f hb ?_
  refine cf_wkY hC hY f_state ?_
  intro val hv
  dsimp only
  have hm := hC.1
  refine loop_0 (fun n i s => wY_outputs_21 post f_size (nI m) f_isBuilt f_given f_state a_gates a_wires val a_seen n s (nI i)) (fun i s => s = cf_ac (fun o => cf_V K A B C f_given f_state (w (6 + o))) i) 4 0 rfl (fun n s hs => br_t (by decide) (by rw [hs]; exact h val)) ?_
  intro n i s hi hs k
  have hw := hC.2.2 (6 + i) (by omega)
  have e0 : a_wires (16 + i) = nI (w (6 + i)) := by
    have := hY.2 (6 + i) (by omega)
    rw [show 10 + (6 + i) = 16 + i by omega] at this
    exact this
  have e1 := cf_at (cf_16 i) (by omega) e0
  refine br_f (nI_ge (b := 4) hi (by decide)) ⟨cf_in (cf_16 i) (by omega) (by decide), cf_in e1 (by omega) (by decide), nm_e (nm_r (nI_1 i) (k _ ?_))⟩
  rw [cf_at e1 (by omega) (hv _ hw), hs]
  rfl
end CFY
end
section
/-! tail and period -/
theorem cf_nE {a b : Nat} (ha : a < 64) (hb : b < 64) : nI a = nI b ↔ a = b := nI_eq (by omega) (by omega)
section CFX
variable {m : Nat} {K A B C w P : Nat → Nat}
variable {f_gates : Int32} {f_hasDevice : Int32} {f_inputLevels : Int32} {f_registerLevels : Int32} {a_kindOfGate : Nat → Int32} {a_firstOfGate : Nat → Int32} {a_secondOfGate : Nat → Int32} {a_thirdOfGate : Nat → Int32} {a_nextOfRegister : Nat → Int32} {a_shownByOutput : Nat → Int32} {a_placeOfSignal : Nat → Int32} {a_tableOfCell : Nat → Int32} {a_firstWireOfCell : Nat → Int32} {a_secondWireOfCell : Nat → Int32} {a_thirdWireOfCell : Nat → Int32} {a_wireOfRegister : Nat → Int32} {a_wireOfOutput : Nat → Int32}
theorem cf_leX {post : Int32 → Prop} (hC : cf_C m K A B C w) (hD : cf_D m K A B C w P a_placeOfSignal a_tableOfCell a_firstWireOfCell a_secondWireOfCell a_thirdWireOfCell a_wireOfRegister a_wireOfOutput)
    {R t e : Nat} (hR : R < 64) (hl : cf_Lo (cf_st K A B C w f_inputLevels) R t e) (h : post (nI (cf_it (cf_st K A B C w f_inputLevels) R e))) :
    wpX_loopEntry post (f_gates, f_hasDevice, nI m, f_inputLevels, nI R, a_kindOfGate, a_firstOfGate, a_secondOfGate, a_thirdOfGate, a_nextOfRegister, a_shownByOutput, a_placeOfSignal, a_tableOfCell, a_firstWireOfCell, a_secondWireOfCell, a_thirdWireOfCell, a_wireOfRegister, a_wireOfOutput) := by
  obtain ⟨h1, h2, h3, h4⟩ := hl
  have h64 := cf_it64 (cf_st64 K A B C w f_inputLevels) hR
  refine loop_0 (fun n i met => wX_loopEntry_10 post f_gates f_hasDevice (nI m) f_inputLevels (nI R) a_kindOfGate a_firstOfGate a_secondOfGate a_thirdOfGate a_nextOfRegister a_shownByOutput a_placeOfSignal a_tableOfCell a_firstWireOfCell a_secondWireOfCell a_thirdWireOfCell a_wireOfRegister a_wireOfOutput n met (nI (cf_it (cf_st K A B C w f_inputLevels) R i)) (nI i)) (fun i met => ∀ k, k < 64 → (cf_bl met k = true ↔ ∃ j, j < i ∧ cf_it (cf_st K A B C w f_inputLevels) R j = k)) e 0 ?_ ?_ ?_
  · intro k hk
    constructor
    · intro z
      have : cf_bl 0 k = false := BitVec.getLsbD_zero
      rw [this] at z
      exact absurd z (by decide)
    · rintro ⟨j, hj, -⟩
      exact absurd hj (Nat.not_lt_zero j)
  · intro n met hM
    by_cases e64 : e = 64
    · subst e64
      exact br_t (by decide) h
    · refine br_f (nI_ge (b := 64) (by omega) (by decide)) (nm_e (br_f ?_ h))
      rw [cf_blA met (h64 e)]
      have : cf_bl met (cf_it (cf_st K A B C w f_inputLevels) R e) = true := (hM _ (h64 e)).mpr ⟨t, h1, h3.symm⟩
      rw [this]
      decide
  · intro n i met hi hM k
    refine br_f (nI_ge (b := 64) (by omega) (by decide)) (nm_e (br_t ?_ (nm_e (cf_afX hC hD _ (nm_r (nI_1 i) (k _ ?_))))))
    · rw [cf_blA met (h64 i)]
      cases hb : cf_bl met (cf_it (cf_st K A B C w f_inputLevels) R i) with
      | false => rfl
      | true =>
        obtain ⟨j, hj, hz⟩ := (hM _ (h64 i)).mp hb
        exact absurd hz (h4 j i hj hi)
    · intro q hq
      rw [cf_blO met (h64 i) hq, Bool.or_eq_true, decide_eq_true_eq, hM q hq]
      constructor
      · rintro (⟨j, hj, hz⟩ | hz)
        · exact ⟨j, by omega, hz⟩
        · exact ⟨i, by omega, hz⟩
      · rintro ⟨j, hj, hz⟩
        by_cases ej : j = i
        · subst ej
          exact Or.inr hz
        · exact Or.inl ⟨j, by omega, hz⟩
theorem cf_cbX {post : Int32 → Prop} (hC : cf_C m K A B C w) (hD : cf_D m K A B C w P a_placeOfSignal a_tableOfCell a_firstWireOfCell a_secondWireOfCell a_thirdWireOfCell a_wireOfRegister a_wireOfOutput)
    {a b c : Nat} (hb : b < 64) (hc : c < 64) (he : cf_it (cf_st K A B C w f_inputLevels) a (c + 1) = b) (hn : ∀ j, j < c → cf_it (cf_st K A B C w f_inputLevels) a (j + 1) ≠ b)
    (h : post (nI (c + 1))) : wpX_cyclesBetween post (f_gates, f_hasDevice, nI m, f_inputLevels, f_registerLevels, a_kindOfGate, a_firstOfGate, a_secondOfGate, a_thirdOfGate, a_nextOfRegister, a_shownByOutput, a_placeOfSignal, a_tableOfCell, a_firstWireOfCell, a_secondWireOfCell, a_thirdWireOfCell, a_wireOfRegister, a_wireOfOutput) (nI a) (nI b) := by
  refine cf_afX hC hD a ?_
  refine loop_0 (fun n i (_ : Unit) => wX_cyclesBetween_9 post (nI b) f_gates f_hasDevice (nI m) f_inputLevels f_registerLevels a_kindOfGate a_firstOfGate a_secondOfGate a_thirdOfGate a_nextOfRegister a_shownByOutput a_placeOfSignal a_tableOfCell a_firstWireOfCell a_secondWireOfCell a_thirdWireOfCell a_wireOfRegister a_wireOfOutput n (nI (i + 1)) (nI (cf_it (cf_st K A B C w f_inputLevels) a (i + 1)))) (fun _ _ => True) c () trivial ?_ ?_
  · intro n _ _
    exact br_t (by rw [he]) h
  · intro n i _ hi _ k
    have h64 : cf_it (cf_st K A B C w f_inputLevels) a (i + 1) < 64 := cf_st64 _ _ _ _ _ _ _
    refine br_f (fun z => hn i hi ((cf_nE h64 hb).mp z)) (br_f (nI_ge (b := 64) (by omega) (by decide)) (cf_afX hC hD _ (nm_r (nI_1 (i + 1)) (k () trivial))))
theorem cf_taX {post : Int32 → Prop} (hd : ¬ f_hasDevice = 0) (hC : cf_C m K A B C w) (hD : cf_D m K A B C w P a_placeOfSignal a_tableOfCell a_firstWireOfCell a_secondWireOfCell a_thirdWireOfCell a_wireOfRegister a_wireOfOutput)
    {R t e : Nat} (hR : R < 64) (hl : cf_Lo (cf_st K A B C w f_inputLevels) R t e) (h : post (nI t)) :
    wpX_tail post (f_gates, f_hasDevice, nI m, f_inputLevels, nI R, a_kindOfGate, a_firstOfGate, a_secondOfGate, a_thirdOfGate, a_nextOfRegister, a_shownByOutput, a_placeOfSignal, a_tableOfCell, a_firstWireOfCell, a_secondWireOfCell, a_thirdWireOfCell, a_wireOfRegister, a_wireOfOutput) := by
  have h64 := cf_it64 (cf_st64 K A B C w f_inputLevels) hR
  refine br_f hd (cf_leX hC hD hR hl ?_)
  obtain ⟨h1, h2, h3, h4⟩ := hl
  rw [cf_nE hR (h64 e)]
  by_cases t0 : t = 0
  · subst t0
    exact br_t h3.symm h
  · have hne : ¬ R = cf_it (cf_st K A B C w f_inputLevels) R e := by
      rw [h3]
      exact h4 0 t (by omega) h1
    obtain ⟨c, rfl⟩ : ∃ c, t = c + 1 := ⟨t - 1, by omega⟩
    refine br_f hne (cf_cbX hC hD (c := c) (h64 e) (by omega) h3.symm ?_ h)
    intro j hj
    rw [h3]
    exact h4 (j + 1) (c + 1) (by omega) h1
theorem cf_peX {post : Int32 → Prop} (hd : ¬ f_hasDevice = 0) (hC : cf_C m K A B C w) (hD : cf_D m K A B C w P a_placeOfSignal a_tableOfCell a_firstWireOfCell a_secondWireOfCell a_thirdWireOfCell a_wireOfRegister a_wireOfOutput)
    {R t e : Nat} (hR : R < 64) (hl : cf_Lo (cf_st K A B C w f_inputLevels) R t e) (h : post (nI (e - t))) :
    wpX_period post (f_gates, f_hasDevice, nI m, f_inputLevels, nI R, a_kindOfGate, a_firstOfGate, a_secondOfGate, a_thirdOfGate, a_nextOfRegister, a_shownByOutput, a_placeOfSignal, a_tableOfCell, a_firstWireOfCell, a_secondWireOfCell, a_thirdWireOfCell, a_wireOfRegister, a_wireOfOutput) := by
  have h64 := cf_it64 (cf_st64 K A B C w f_inputLevels) hR
  refine br_f hd (cf_leX hC hD hR hl ?_)
  obtain ⟨h1, h2, h3, h4⟩ := hl
  obtain ⟨c, hc⟩ : ∃ c, e - t = c + 1 := ⟨e - t - 1, by omega⟩
  rw [hc] at h
  refine cf_cbX hC hD (c := c) (h64 e) (by omega) ?_ ?_ h
  · rw [h3, cf_itA, show t + (c + 1) = e by omega, h3]
  · intro j hj
    rw [h3, cf_itA]
    exact (h4 t (t + (j + 1)) (by omega) (by omega)).symm
end CFX
section CFY
variable {m : Nat} {K A B C w : Nat → Nat}
variable {f_size : Int32} {f_isBuilt : Int32} {f_given : Int32} {f_state : Int32} {a_gates : Nat → Int32} {a_wires : Nat → Int32} {a_values : Nat → Int32} {a_seen : Nat → Int32}
theorem cf_ci28 {post : Int32 → SY → Prop} (hC : cf_C m K A B C w) (hY : cf_Y 80 10 m K A B C w a_gates a_wires)
    {R t e : Nat} (hR : R < 64) (hl : cf_Lo (cf_st K A B C w f_given) R t e) (h0 : ∀ k, k < 64 → a_seen k = -1)
    (h : ∀ val seen : Nat → Int32, post (nI (t + 1024 * (e - t))) (f_size, nI m, f_isBuilt, f_given, nI R, a_gates, a_wires, val, seen)) :
    ∃ n, wY_circle_28 post n (nI R) 0 f_size (nI m) f_isBuilt f_given (nI R) a_gates a_wires a_values a_seen := by
  obtain ⟨h1, h2, h3, h4⟩ := hl
  have h64 := cf_it64 (cf_st64 K A B C w f_given) hR
  refine loop_0 (fun n i (s : (Nat → Int32) × (Nat → Int32)) => wY_circle_28 post n (nI (cf_it (cf_st K A B C w f_given) R i)) (nI i) f_size (nI m) f_isBuilt f_given (nI R) a_gates a_wires s.1 s.2) (fun i s => (∀ j, j < i → s.2 (cf_it (cf_st K A B C w f_given) R j) = nI j) ∧ ∀ k, k < 64 → (∀ j, j < i → cf_it (cf_st K A B C w f_given) R j ≠ k) → s.2 k = -1) e (a_values, a_seen) ?_ ?_ ?_
  · exact ⟨fun j hj => absurd hj (Nat.not_lt_zero j), fun k hk _ => h0 k hk⟩
  · rintro n ⟨val, seen⟩ ⟨hM, -⟩
    have hin : vp_in (nI (cf_it (cf_st K A B C w f_given) R e)) 64 := vp_in_nI (h64 e) (by decide)
    have es : seen (nI (cf_it (cf_st K A B C w f_given) R e)).toNatClampNeg = nI t := by
      rw [nI_clamp (by have := h64 e; omega), h3]
      exact hM t h1
    have ev : nI t + 1024 * (nI e - nI t) = nI (t + 1024 * (e - t)) := by
      have : (1024 : Int32) * nI (e - t) = nI (1024 * (e - t)) := pk_mul 1024 (e - t)
      rw [pk_sub (by omega), this, nI_add]
    refine ⟨hin, br_t ?_ ⟨hin, hin, ?_⟩⟩
    · show 0 ≤ seen _
      rw [es]
      exact nI_pos' (by omega)
    · show post (seen _ + 1024 * (nI e - seen _)) _
      rw [es, ev]
      exact h val seen
  · rintro n i ⟨val, seen⟩ hi ⟨hM, hN⟩ k
    have hin : vp_in (nI (cf_it (cf_st K A B C w f_given) R i)) 64 := vp_in_nI (h64 i) (by decide)
    have ec : (nI (cf_it (cf_st K A B C w f_given) R i)).toNatClampNeg = cf_it (cf_st K A B C w f_given) R i := nI_clamp (by have := h64 i; omega)
    have es : seen (nI (cf_it (cf_st K A B C w f_given) R i)).toNatClampNeg = -1 := by
      rw [ec]
      exact hN _ (h64 i) (fun j hj => h4 j i hj hi)
    refine ⟨hin, br_f ?_ ⟨hin, nm_e (nm_r (nI_1 i) ?_)⟩⟩
    · show ¬ 0 ≤ seen _
      rw [es]
      decide
    · refine cf_foY hC hY _ ?_
      intro val'
      refine k (val', upd seen (nI (cf_it (cf_st K A B C w f_given) R i)).toNatClampNeg (nI i)) ⟨?_, ?_⟩
      · intro j hj
        show upd seen _ _ _ = _
        rw [ec]
        by_cases ej : j = i
        · subst ej
          exact pk_us
        · rw [pk_un (h4 j i (by omega) hi)]
          exact hM j (by omega)
      · intro q hq hz
        show upd seen _ _ _ = _
        rw [ec, pk_un (fun z => hz i (by omega) z.symm)]
        exact hN q hq (fun j hj => hz j (by omega))
theorem cf_ciY {post : Int32 → SY → Prop} (hC : cf_C m K A B C w) (hY : cf_Y 80 10 m K A B C w a_gates a_wires)
    {R t e : Nat} (hR : R < 64) (hl : cf_Lo (cf_st K A B C w f_given) R t e)
    (h : ∀ val seen : Nat → Int32, post (nI (t + 1024 * (e - t))) (f_size, nI m, f_isBuilt, f_given, nI R, a_gates, a_wires, val, seen)) :
    wpY_circle post (f_size, nI m, f_isBuilt, f_given, nI R, a_gates, a_wires, a_values, a_seen) := by
  refine loop_0 (fun n i seen => wY_circle_2 post f_size (nI m) f_isBuilt f_given (nI R) n (nI i) a_gates a_wires a_values seen) (fun i seen => ∀ k, k < i → seen k = -1) 64 a_seen (fun j hj => absurd hj (Nat.not_lt_zero j)) ?_ ?_
  · intro n seen hs
    exact br_t (by decide) (cf_ci28 hC hY hR hl hs h)
  · intro n i seen hi hs k
    refine br_f (nI_ge (b := 64) hi (by decide)) ⟨vp_in_nI hi (by decide), nm_e (nm_r (nI_1 i) (k _ ?_))⟩
    intro j hj
    rw [nI_clamp (by omega)]
    by_cases e : j = i
    · subst e
      exact pk_us
    · rw [pk_un e]
      exact hs j (by omega)
theorem cf_taY {post : Int32 → SY → Prop} (hb : ¬ f_isBuilt = 0) (hC : cf_C m K A B C w) (hY : cf_Y 80 10 m K A B C w a_gates a_wires)
    {R t e : Nat} (hR : R < 64) (hl : cf_Lo (cf_st K A B C w f_given) R t e)
    (h : ∀ val seen : Nat → Int32, post (nI t) (f_size, nI m, f_isBuilt, f_given, nI R, a_gates, a_wires, val, seen)) :
    wpY_tail post (f_size, nI m, f_isBuilt, f_given, nI R, a_gates, a_wires, a_values, a_seen) := by
  refine br_f hb (cf_ciY hC hY hR hl ?_)
  intro val seen
  obtain ⟨h1, h2, -, -⟩ := hl
  refine ⟨by decide, ?_⟩
  have e1 : nI (t + 1024 * (e - t)) - nI (t + 1024 * (e - t)) / 1024 * 1024 = nI t := by
    have := pk_rem (a := t + 1024 * (e - t)) (d := 1024) (by omega) (by decide) (by decide)
    rw [Nat.add_mul_mod_self_left, Nat.mod_eq_of_lt (show t < 1024 by omega)] at this
    exact this
  rw [e1]
  exact h val seen
theorem cf_peY {post : Int32 → SY → Prop} (hb : ¬ f_isBuilt = 0) (hC : cf_C m K A B C w) (hY : cf_Y 80 10 m K A B C w a_gates a_wires)
    {R t e : Nat} (hR : R < 64) (hl : cf_Lo (cf_st K A B C w f_given) R t e)
    (h : ∀ val seen : Nat → Int32, post (nI (e - t)) (f_size, nI m, f_isBuilt, f_given, nI R, a_gates, a_wires, val, seen)) :
    wpY_period post (f_size, nI m, f_isBuilt, f_given, nI R, a_gates, a_wires, a_values, a_seen) := by
  refine br_f hb (cf_ciY hC hY hR hl ?_)
  intro val seen
  obtain ⟨h1, h2, -, -⟩ := hl
  refine ⟨by decide, ?_⟩
  have e1 : nI (t + 1024 * (e - t)) / 1024 = nI (e - t) := by
    have := pk_div (a := t + 1024 * (e - t)) (d := 1024) (by omega) (by decide) (by decide)
    rw [show (t + 1024 * (e - t)) / 1024 = e - t by omega] at this
    exact this
  rw [e1]
  exact h val seen
end CFY
end
section
/-! the circuit on the component's side; build -/
def cf_X (n : Nat) (K A B C w : Nat → Nat) (kind fst snd thd nxt shn : Nat → Int32) : Prop :=
  (∀ g, g < n → kind g = nI (K g) ∧ fst g = nI (A g) ∧ snd g = nI (B g) ∧ thd g = nI (if K g < 7 then A g else C g)) ∧
  (∀ r, r < 6 → nxt r = nI (w r)) ∧ ∀ o, o < 4 → shn o = nI (w (6 + o))
section CFX
variable {n : Nat} {K A B C w P : Nat → Nat}
theorem cf_cpX {post : SX → Prop} {f_gates : Int32} {f_hasDevice : Int32} {f_cells : Int32} {f_inputLevels : Int32} {f_registerLevels : Int32} {a_kindOfGate : Nat → Int32} {a_firstOfGate : Nat → Int32} {a_secondOfGate : Nat → Int32} {a_thirdOfGate : Nat → Int32} {a_nextOfRegister : Nat → Int32} {a_shownByOutput : Nat → Int32} {a_placeOfSignal : Nat → Int32} {a_tableOfCell : Nat → Int32} {a_firstWireOfCell : Nat → Int32} {a_secondWireOfCell : Nat → Int32} {a_thirdWireOfCell : Nat → Int32} {a_wireOfRegister : Nat → Int32} {a_wireOfOutput : Nat → Int32} {c : Nat} (hc : c ≤ 1000) (h : ∀ plc : Nat → Int32, (∀ s, s < 32 → plc s = nI (cf_pl c s)) → post (f_gates, f_hasDevice, f_cells, f_inputLevels, f_registerLevels, a_kindOfGate, a_firstOfGate, a_secondOfGate, a_thirdOfGate, a_nextOfRegister, a_shownByOutput, plc, a_tableOfCell, a_firstWireOfCell, a_secondWireOfCell, a_thirdWireOfCell, a_wireOfRegister, a_wireOfOutput)) :
    wpX_choosePlaces post (f_gates, f_hasDevice, f_cells, f_inputLevels, f_registerLevels, a_kindOfGate, a_firstOfGate, a_secondOfGate, a_thirdOfGate, a_nextOfRegister, a_shownByOutput, a_placeOfSignal, a_tableOfCell, a_firstWireOfCell, a_secondWireOfCell, a_thirdWireOfCell, a_wireOfRegister, a_wireOfOutput) (nI c) := by
  refine nm_e (loop_0 (fun n i plc => wX_choosePlaces_8 post (nI c) (2 * nI c + 1) f_gates f_hasDevice f_cells f_inputLevels f_registerLevels n (nI i) a_kindOfGate a_firstOfGate a_secondOfGate a_thirdOfGate a_nextOfRegister a_shownByOutput plc a_tableOfCell a_firstWireOfCell a_secondWireOfCell a_thirdWireOfCell a_wireOfRegister a_wireOfOutput) (fun i plc => ∀ s, s < i → plc s = nI (cf_pl c s)) 32 a_placeOfSignal (fun j hj => absurd hj (Nat.not_lt_zero j)) (fun n plc hs => br_t (by decide) (h plc hs)) ?_)
  intro n i plc hi hs k
  refine br_f (nI_ge (b := 32) hi (by decide)) ⟨vp_in_nI hi (by decide), nm_e (nm_r (nI_1 i) (k _ ?_))⟩
  intro j hj
  rw [nI_clamp (by omega), cf_plI hc hi]
  by_cases e : j = i
  · subst e
    exact pk_us
  · rw [pk_un e]
    exact hs j (by omega)
theorem cf_pcX {post : SX → Prop} {f_hasDevice : Int32} {f_cells : Int32} {f_inputLevels : Int32} {f_registerLevels : Int32} {a_kindOfGate : Nat → Int32} {a_firstOfGate : Nat → Int32} {a_secondOfGate : Nat → Int32} {a_thirdOfGate : Nat → Int32} {a_nextOfRegister : Nat → Int32} {a_shownByOutput : Nat → Int32} {a_placeOfSignal : Nat → Int32} {a_tableOfCell : Nat → Int32} {a_firstWireOfCell : Nat → Int32} {a_secondWireOfCell : Nat → Int32} {a_thirdWireOfCell : Nat → Int32} {a_wireOfRegister : Nat → Int32} {a_wireOfOutput : Nat → Int32} (hC : cf_C n K A B C w) (hX : cf_X n K A B C w a_kindOfGate a_firstOfGate a_secondOfGate a_thirdOfGate a_nextOfRegister a_shownByOutput)
    (hP : cf_P P) (hp : ∀ s, s < 32 → a_placeOfSignal s = nI (P s))
    (h : ∀ tab w1 w2 w3 : Nat → Int32, (∀ g, g < n → tab (P (12 + g)) = cf_tb (K g) 8 ∧ w1 (P (12 + g)) = nI (P (A g)) ∧ w2 (P (12 + g)) = nI (P (B g)) ∧ w3 (P (12 + g)) = nI (P (if K g < 7 then A g else C g))) → post (nI n, f_hasDevice, nI n, f_inputLevels, f_registerLevels, a_kindOfGate, a_firstOfGate, a_secondOfGate, a_thirdOfGate, a_nextOfRegister, a_shownByOutput, a_placeOfSignal, tab, w1, w2, w3, a_wireOfRegister, a_wireOfOutput)) :
    wpX_putCells post (nI n, f_hasDevice, f_cells, f_inputLevels, f_registerLevels, a_kindOfGate, a_firstOfGate, a_secondOfGate, a_thirdOfGate, a_nextOfRegister, a_shownByOutput, a_placeOfSignal, a_tableOfCell, a_firstWireOfCell, a_secondWireOfCell, a_thirdWireOfCell, a_wireOfRegister, a_wireOfOutput) := by
  have hn := hC.1
  refine loop_0 (fun q i (s : (Nat → Int32) × (Nat → Int32) × (Nat → Int32) × (Nat → Int32)) => wX_putCells_10 post (nI n) f_hasDevice (nI n) f_inputLevels f_registerLevels q (nI i) a_kindOfGate a_firstOfGate a_secondOfGate a_thirdOfGate a_nextOfRegister a_shownByOutput a_placeOfSignal s.1 s.2.1 s.2.2.1 s.2.2.2 a_wireOfRegister a_wireOfOutput) (fun i s => ∀ g, g < i → s.1 (P (12 + g)) = cf_tb (K g) 8 ∧ s.2.1 (P (12 + g)) = nI (P (A g)) ∧ s.2.2.1 (P (12 + g)) = nI (P (B g)) ∧ s.2.2.2 (P (12 + g)) = nI (P (if K g < 7 then A g else C g))) n (a_tableOfCell, a_firstWireOfCell, a_secondWireOfCell, a_thirdWireOfCell) (fun j hj => absurd hj (Nat.not_lt_zero j)) ?_ ?_
  · rintro q ⟨tab, w1, w2, w3⟩ hs
    exact br_t (nI_le (Nat.le_refl n) (by omega)) (h tab w1 w2 w3 hs)
  · rintro q i ⟨tab, w1, w2, w3⟩ hi hs k
    obtain ⟨hK, hA, hB, hc⟩ := hC.2.1 i hi
    obtain ⟨x1, x2, x3, x4⟩ := hX.1 i hi
    have hc' : (if K i < 7 then A i else C i) < 12 + i := by split <;> assumption
    have p32 := hP.1 (12 + i) (by omega)
    have i20 : vp_in (nI i) 20 := vp_in_nI (by omega) (by decide)
    have iP : vp_in (nI (P (12 + i))) 32 := vp_in_nI p32 (by decide)
    have y2 := cf_at (f := a_firstOfGate) (x := nI i) rfl (by omega) x2
    have y3 := cf_at (f := a_secondOfGate) (x := nI i) rfl (by omega) x3
    have y4 := cf_at (f := a_thirdOfGate) (x := nI i) rfl (by omega) x4
    refine br_f (nI_ge hi (by omega)) ⟨cf_in (cf_12 i) (by omega) (by decide), nm_r (cf_at (cf_12 i) (by omega) (hp (12 + i) (by omega))) ⟨i20, ?_⟩⟩
    rw [cf_at (f := a_kindOfGate) (x := nI i) rfl (by omega) x1]
    refine cf_tX hK ⟨iP, nm_e ⟨i20, cf_in y2 (by omega) (by decide), iP, nm_e ⟨i20, cf_in y3 (by omega) (by decide), iP, nm_e ⟨i20, cf_in y4 (by omega) (by decide), iP, nm_e (nm_r (nI_1 i) (k (upd tab (nI (P (12 + i))).toNatClampNeg (cf_tb (K i) 8), upd w1 (nI (P (12 + i))).toNatClampNeg (a_placeOfSignal (a_firstOfGate (nI i).toNatClampNeg).toNatClampNeg), upd w2 (nI (P (12 + i))).toNatClampNeg (a_placeOfSignal (a_secondOfGate (nI i).toNatClampNeg).toNatClampNeg), upd w3 (nI (P (12 + i))).toNatClampNeg (a_placeOfSignal (a_thirdOfGate (nI i).toNatClampNeg).toNatClampNeg)) ?_))⟩⟩⟩⟩
    rw [cf_at y2 (by omega) (hp _ (by omega)), cf_at y3 (by omega) (hp _ (by omega)), cf_at y4 (by omega) (hp _ (by omega)), nI_clamp (show P (12 + i) < 2 ^ 31 by omega)]
    intro g hg
    show upd tab (P (12 + i)) (cf_tb (K i) 8) (P (12 + g)) = _ ∧ upd w1 (P (12 + i)) (nI (P (A i))) (P (12 + g)) = _ ∧ upd w2 (P (12 + i)) (nI (P (B i))) (P (12 + g)) = _ ∧ upd w3 (P (12 + i)) (nI (P (if K i < 7 then A i else C i))) (P (12 + g)) = _
    by_cases e : g = i
    · subst e
      exact ⟨pk_us, pk_us, pk_us, pk_us⟩
    · have ne : P (12 + g) ≠ P (12 + i) := fun z => e (by have := hP.2 (12 + g) (12 + i) (by omega) (by omega) z; omega)
      rw [pk_un ne, pk_un ne, pk_un ne, pk_un ne]
      exact hs g (by omega)
theorem cf_lwX {post : SX → Prop} {f_gates : Int32} {f_hasDevice : Int32} {f_cells : Int32} {f_inputLevels : Int32} {f_registerLevels : Int32} {a_kindOfGate : Nat → Int32} {a_firstOfGate : Nat → Int32} {a_secondOfGate : Nat → Int32} {a_thirdOfGate : Nat → Int32} {a_nextOfRegister : Nat → Int32} {a_shownByOutput : Nat → Int32} {a_placeOfSignal : Nat → Int32} {a_tableOfCell : Nat → Int32} {a_firstWireOfCell : Nat → Int32} {a_secondWireOfCell : Nat → Int32} {a_thirdWireOfCell : Nat → Int32} {a_wireOfRegister : Nat → Int32} {a_wireOfOutput : Nat → Int32} (hn : n ≤ 20) (hw : ∀ j, j < 10 → w j < 12 + n)
    (h1 : ∀ r, r < 6 → a_nextOfRegister r = nI (w r)) (h2 : ∀ o, o < 4 → a_shownByOutput o = nI (w (6 + o)))
    (hp : ∀ s, s < 32 → a_placeOfSignal s = nI (P s))
    (h : ∀ wr wo : Nat → Int32, (∀ r, r < 6 → wr r = nI (P (w r))) → (∀ o, o < 4 → wo o = nI (P (w (6 + o)))) → post (f_gates, f_hasDevice, f_cells, f_inputLevels, f_registerLevels, a_kindOfGate, a_firstOfGate, a_secondOfGate, a_thirdOfGate, a_nextOfRegister, a_shownByOutput, a_placeOfSignal, a_tableOfCell, a_firstWireOfCell, a_secondWireOfCell, a_thirdWireOfCell, wr, wo)) :
    wpX_layWires post (f_gates, f_hasDevice, f_cells, f_inputLevels, f_registerLevels, a_kindOfGate, a_firstOfGate, a_secondOfGate, a_thirdOfGate, a_nextOfRegister, a_shownByOutput, a_placeOfSignal, a_tableOfCell, a_firstWireOfCell, a_secondWireOfCell, a_thirdWireOfCell, a_wireOfRegister, a_wireOfOutput) := by
  refine loop_0 (fun q i wr => wX_layWires_2 post f_gates f_hasDevice f_cells f_inputLevels f_registerLevels q (nI i) a_kindOfGate a_firstOfGate a_secondOfGate a_thirdOfGate a_nextOfRegister a_shownByOutput a_placeOfSignal a_tableOfCell a_firstWireOfCell a_secondWireOfCell a_thirdWireOfCell wr a_wireOfOutput) (fun i wr => ∀ r, r < i → wr r = nI (P (w r))) 6 a_wireOfRegister (fun j hj => absurd hj (Nat.not_lt_zero j)) ?_ ?_
  · intro q wr hr
    refine br_t (by decide) (loop_0 (fun q i wo => wX_layWires_33 post f_gates f_hasDevice f_cells f_inputLevels f_registerLevels q (nI i) a_kindOfGate a_firstOfGate a_secondOfGate a_thirdOfGate a_nextOfRegister a_shownByOutput a_placeOfSignal a_tableOfCell a_firstWireOfCell a_secondWireOfCell a_thirdWireOfCell wr wo) (fun i wo => ∀ o, o < i → wo o = nI (P (w (6 + o)))) 4 a_wireOfOutput (fun j hj => absurd hj (Nat.not_lt_zero j)) ?_ ?_)
    · intro q wo ho
      exact br_t (by decide) (h wr wo hr ho)
    · intro q i wo hi ho k
      have hj := hw (6 + i) (by omega)
      have y := cf_at (f := a_shownByOutput) (x := nI i) rfl (by omega) (h2 i hi)
      refine br_f (nI_ge (b := 4) hi (by decide)) ⟨vp_in_nI hi (by decide), cf_in y (by omega) (by decide), vp_in_nI hi (by decide), nm_e (nm_r (nI_1 i) (k _ ?_))⟩
      intro j hj2
      rw [cf_at y (by omega) (hp _ (by omega)), nI_clamp (show i < 2 ^ 31 by omega)]
      by_cases e : j = i
      · subst e
        exact pk_us
      · rw [pk_un e]
        exact ho j (by omega)
  · intro q i wr hi hr k
    have hj := hw i (by omega)
    have y := cf_at (f := a_nextOfRegister) (x := nI i) rfl (by omega) (h1 i hi)
    refine br_f (nI_ge (b := 6) hi (by decide)) ⟨vp_in_nI hi (by decide), cf_in y (by omega) (by decide), vp_in_nI hi (by decide), nm_e (nm_r (nI_1 i) (k _ ?_))⟩
    intro j hj2
    rw [cf_at y (by omega) (hp _ (by omega)), nI_clamp (show i < 2 ^ 31 by omega)]
    by_cases e : j = i
    · subst e
      exact pk_us
    · rw [pk_un e]
      exact hr j (by omega)
theorem cf_buX {post : Int32 → SX → Prop} {f_hasDevice : Int32} {f_cells : Int32} {f_inputLevels : Int32} {f_registerLevels : Int32} {a_kindOfGate : Nat → Int32} {a_firstOfGate : Nat → Int32} {a_secondOfGate : Nat → Int32} {a_thirdOfGate : Nat → Int32} {a_nextOfRegister : Nat → Int32} {a_shownByOutput : Nat → Int32} {a_placeOfSignal : Nat → Int32} {a_tableOfCell : Nat → Int32} {a_firstWireOfCell : Nat → Int32} {a_secondWireOfCell : Nat → Int32} {a_thirdWireOfCell : Nat → Int32} {a_wireOfRegister : Nat → Int32} {a_wireOfOutput : Nat → Int32} {c : Nat} (hc : c ≤ 1000) (hC : cf_C n K A B C w) (hX : cf_X n K A B C w a_kindOfGate a_firstOfGate a_secondOfGate a_thirdOfGate a_nextOfRegister a_shownByOutput)
    (h : ∀ plc tab w1 w2 w3 wr wo : Nat → Int32, cf_D n K A B C w (cf_pl c) plc tab w1 w2 w3 wr wo → post 1 (nI n, 1, nI n, f_inputLevels, 0, a_kindOfGate, a_firstOfGate, a_secondOfGate, a_thirdOfGate, a_nextOfRegister, a_shownByOutput, plc, tab, w1, w2, w3, wr, wo)) :
    wpX_build post (nI n, f_hasDevice, f_cells, f_inputLevels, f_registerLevels, a_kindOfGate, a_firstOfGate, a_secondOfGate, a_thirdOfGate, a_nextOfRegister, a_shownByOutput, a_placeOfSignal, a_tableOfCell, a_firstWireOfCell, a_secondWireOfCell, a_thirdWireOfCell, a_wireOfRegister, a_wireOfOutput) (nI c) := by
  refine br_f (nI_pos (by omega)) (br_t (nI_le (b := 1000) hc (by decide)) (cf_cpX hc ?_))
  intro plc hp
  dsimp only
  refine cf_pcX hC hX (cf_plP c) hp ?_
  intro tab w1 w2 w3 hG
  dsimp only
  refine cf_lwX hC.1 hC.2.2 hX.2.1 hX.2.2 hp ?_
  intro wr wo hr ho
  exact h plc tab w1 w2 w3 wr wo ⟨cf_plP c, hp, hG, hr, ho⟩
/-! drop -/
def cf_dw (s : Nat) (w : Nat → Nat) (j : Nat) : Nat := if w j = s then (if j < 6 then 6 + j else 0) else w j
theorem cf_fgX {post : SX → Prop} {f_gates : Int32} {f_hasDevice : Int32} {f_cells : Int32} {f_inputLevels : Int32} {f_registerLevels : Int32} {a_kindOfGate : Nat → Int32} {a_firstOfGate : Nat → Int32} {a_secondOfGate : Nat → Int32} {a_thirdOfGate : Nat → Int32} {a_nextOfRegister : Nat → Int32} {a_shownByOutput : Nat → Int32} {a_placeOfSignal : Nat → Int32} {a_tableOfCell : Nat → Int32} {a_firstWireOfCell : Nat → Int32} {a_secondWireOfCell : Nat → Int32} {a_thirdWireOfCell : Nat → Int32} {a_wireOfRegister : Nat → Int32} {a_wireOfOutput : Nat → Int32} {s : Nat} (hs : s < 32) (hw : ∀ j, j < 10 → w j < 32)
    (h1 : ∀ r, r < 6 → a_nextOfRegister r = nI (w r)) (h2 : ∀ o, o < 4 → a_shownByOutput o = nI (w (6 + o)))
    (h : ∀ nxt shn : Nat → Int32, (∀ r, r < 6 → nxt r = nI (cf_dw s w r)) → (∀ o, o < 4 → shn o = nI (cf_dw s w (6 + o))) → post (f_gates, f_hasDevice, f_cells, f_inputLevels, f_registerLevels, a_kindOfGate, a_firstOfGate, a_secondOfGate, a_thirdOfGate, nxt, shn, a_placeOfSignal, a_tableOfCell, a_firstWireOfCell, a_secondWireOfCell, a_thirdWireOfCell, a_wireOfRegister, a_wireOfOutput)) :
    wpX_forget post (f_gates, f_hasDevice, f_cells, f_inputLevels, f_registerLevels, a_kindOfGate, a_firstOfGate, a_secondOfGate, a_thirdOfGate, a_nextOfRegister, a_shownByOutput, a_placeOfSignal, a_tableOfCell, a_firstWireOfCell, a_secondWireOfCell, a_thirdWireOfCell, a_wireOfRegister, a_wireOfOutput) (nI s) := by
  refine loop_0 (fun q i nxt => wX_forget_2 post (nI s) f_gates f_hasDevice f_cells f_inputLevels f_registerLevels q (nI i) a_kindOfGate a_firstOfGate a_secondOfGate a_thirdOfGate nxt a_shownByOutput a_placeOfSignal a_tableOfCell a_firstWireOfCell a_secondWireOfCell a_thirdWireOfCell a_wireOfRegister a_wireOfOutput) (fun i nxt => ∀ r, r < 6 → nxt r = nI (if r < i then cf_dw s w r else w r)) 6 a_nextOfRegister ?_ ?_ ?_
  · intro r hr
    rw [if_neg (Nat.not_lt_zero r)]
    exact h1 r hr
  · intro q nxt hn
    have hn' : ∀ r, r < 6 → nxt r = nI (cf_dw s w r) := fun r hr => by rw [hn r hr, if_pos hr]
    refine br_t (by decide) (loop_0 (fun q i shn => wX_forget_36 post (nI s) f_gates f_hasDevice f_cells f_inputLevels f_registerLevels q (nI i) a_kindOfGate a_firstOfGate a_secondOfGate a_thirdOfGate nxt shn a_placeOfSignal a_tableOfCell a_firstWireOfCell a_secondWireOfCell a_thirdWireOfCell a_wireOfRegister a_wireOfOutput) (fun i shn => ∀ o, o < 4 → shn o = nI (if o < i then cf_dw s w (6 + o) else w (6 + o))) 4 a_shownByOutput ?_ ?_ ?_)
    · intro o ho
      rw [if_neg (Nat.not_lt_zero o)]
      exact h2 o ho
    · intro q shn ho
      exact br_t (by decide) (h nxt shn hn' (fun o h4 => by rw [ho o h4, if_pos h4]))
    · intro q i shn hi ho k
      have hj := hw (6 + i) (by omega)
      have ei := ho i hi
      rw [if_neg (Nat.lt_irrefl i)] at ei
      have y := cf_at (f := shn) (x := nI i) rfl (by omega) ei
      refine br_f (nI_ge (b := 4) hi (by decide)) ⟨vp_in_nI hi (by decide), ?_⟩
      rw [y, nI_eq (by omega) (by omega), nI_clamp (show i < 2 ^ 31 by omega)]
      refine br_c (fun e => ⟨vp_in_nI hi (by decide), nm_e (nm_r (nI_1 i) (k _ ?_))⟩) (fun e => nm_r (nI_1 i) (k _ ?_))
      · intro o h4
        by_cases eo : o = i
        · subst eo
          rw [pk_us, if_pos (Nat.lt_succ_self o)]
          unfold cf_dw
          rw [if_pos e, if_neg (by omega)]
          rfl
        · rw [pk_un eo, ho o h4]
          by_cases hoi : o < i
          · rw [if_pos hoi, if_pos (by omega)]
          · rw [if_neg hoi, if_neg (by omega)]
      · intro o h4
        rw [ho o h4]
        by_cases eo : o = i
        · subst eo
          rw [if_neg (Nat.lt_irrefl o), if_pos (Nat.lt_succ_self o)]
          unfold cf_dw
          rw [if_neg e]
        · by_cases hoi : o < i
          · rw [if_pos hoi, if_pos (by omega)]
          · rw [if_neg hoi, if_neg (by omega)]
  · intro q i nxt hi hn k
    have hj := hw i (by omega)
    have ei := hn i hi
    rw [if_neg (Nat.lt_irrefl i)] at ei
    have y := cf_at (f := nxt) (x := nI i) rfl (by omega) ei
    refine br_f (nI_ge (b := 6) hi (by decide)) ⟨vp_in_nI hi (by decide), ?_⟩
    rw [y, nI_eq (by omega) (by omega), nI_clamp (show i < 2 ^ 31 by omega)]
    refine br_c (fun e => ⟨vp_in_nI hi (by decide), nm_e (nm_r (nI_1 i) (k _ ?_))⟩) (fun e => nm_r (nI_1 i) (k _ ?_))
    · intro o h4
      by_cases eo : o = i
      · subst eo
        rw [pk_us, if_pos (Nat.lt_succ_self o), cf_6]
        unfold cf_dw
        rw [if_pos e, if_pos h4]
      · rw [pk_un eo, hn o h4]
        by_cases hoi : o < i
        · rw [if_pos hoi, if_pos (by omega)]
        · rw [if_neg hoi, if_neg (by omega)]
    · intro o h4
      rw [hn o h4]
      by_cases eo : o = i
      · subst eo
        rw [if_neg (Nat.lt_irrefl o), if_pos (Nat.lt_succ_self o)]
        unfold cf_dw
        rw [if_neg e]
      · by_cases hoi : o < i
        · rw [if_pos hoi, if_pos (by omega)]
        · rw [if_neg hoi, if_neg (by omega)]
end CFX
section CFY
variable {n : Nat} {K A B C w : Nat → Nat}
theorem cf_bu44 {post : Int32 → SY → Prop} {f_size : Int32} {f_builtSize : Int32} {f_isBuilt : Int32} {f_given : Int32} {f_state : Int32} {a_gates : Nat → Int32} {a_wires : Nat → Int32} {a_values : Nat → Int32} {a_seen : Nat → Int32}
    (h : ∀ wrs : Nat → Int32, (∀ j, j < 10 → wrs j = a_wires j) → (∀ j, j < 10 → wrs (10 + j) = a_wires j) → post 1 (f_size, f_size, 1, f_given, 0, a_gates, wrs, a_values, a_seen)) :
    ∃ n, wY_build_44 post f_size f_builtSize f_isBuilt f_given f_state n 0 a_gates a_wires a_values a_seen := by
  refine loop_0 (fun q i wrs => wY_build_44 post f_size f_builtSize f_isBuilt f_given f_state q (nI i) a_gates wrs a_values a_seen) (fun i wrs => (∀ j, j < 10 → wrs j = a_wires j) ∧ ∀ j, j < i → wrs (10 + j) = a_wires j) 10 a_wires ⟨fun _ _ => rfl, fun j hj => absurd hj (Nat.not_lt_zero j)⟩ (fun q wrs hs => br_t (by decide) (h wrs hs.1 hs.2)) ?_
  rintro q i wrs hi ⟨h1, h2⟩ k
  refine br_f (nI_ge (b := 10) hi (by decide)) ⟨vp_in_nI (by omega) (by decide), cf_in (cf_10 i) (by omega) (by decide), nm_e (nm_r (nI_1 i) (k _ ?_))⟩
  rw [nI_clamp (show i < 2 ^ 31 by omega), pk_cl (10 + i) (cf_10 i) (by omega)]
  refine ⟨fun j hj => ?_, fun j hj => ?_⟩
  · rw [pk_un (by omega)]
    exact h1 j hj
  · by_cases e : j = i
    · subst e
      rw [pk_us]
      exact h1 j hi
    · rw [pk_un (by omega)]
      exact h2 j (by omega)
theorem cf_bu15 {post : Int32 → SY → Prop} {f_size : Int32} {f_builtSize : Int32} {f_isBuilt : Int32} {f_given : Int32} {f_state : Int32} {a_gates : Nat → Int32} {a_wires : Nat → Int32} {a_values : Nat → Int32} {a_seen : Nat → Int32}
    (h : ∀ gts wrs : Nat → Int32, (∀ j, j < 80 → gts j = a_gates j) → (∀ j, j < 80 → gts (80 + j) = a_gates j) → (∀ j, j < 10 → wrs j = a_wires j) → (∀ j, j < 10 → wrs (10 + j) = a_wires j) → post 1 (f_size, f_size, 1, f_given, 0, gts, wrs, a_values, a_seen)) :
    ∃ n, wY_build_15 post f_size f_builtSize f_isBuilt f_given f_state n 0 a_gates a_wires a_values a_seen := by
  refine loop_0 (fun q i gts => wY_build_15 post f_size f_builtSize f_isBuilt f_given f_state q (nI i) gts a_wires a_values a_seen) (fun i gts => (∀ j, j < 80 → gts j = a_gates j) ∧ ∀ j, j < i → gts (80 + j) = a_gates j) 80 a_gates ⟨fun _ _ => rfl, fun j hj => absurd hj (Nat.not_lt_zero j)⟩ (fun q gts hs => br_t (by decide) (cf_bu44 (fun wrs h3 h4 => h gts wrs hs.1 hs.2 h3 h4))) ?_
  rintro q i gts hi ⟨h1, h2⟩ k
  refine br_f (nI_ge (b := 80) hi (by decide)) ⟨vp_in_nI (by omega) (by decide), cf_in (cf_80 i) (by omega) (by decide), nm_e (nm_r (nI_1 i) (k _ ?_))⟩
  rw [nI_clamp (show i < 2 ^ 31 by omega), pk_cl (80 + i) (cf_80 i) (by omega)]
  refine ⟨fun j hj => ?_, fun j hj => ?_⟩
  · rw [pk_un (by omega)]
    exact h1 j hj
  · by_cases e : j = i
    · subst e
      rw [pk_us]
      exact h1 j hi
    · rw [pk_un (by omega)]
      exact h2 j (by omega)
theorem cf_buY {post : Int32 → SY → Prop} {f_size : Int32} {f_builtSize : Int32} {f_isBuilt : Int32} {f_given : Int32} {f_state : Int32} {a_gates : Nat → Int32} {a_wires : Nat → Int32} {a_values : Nat → Int32} {a_seen : Nat → Int32} {c : Nat} (hc : c ≤ 1000) (hn : n ≤ 20) (hY : cf_Y 0 0 n K A B C w a_gates a_wires)
    (h : ∀ gts wrs : Nat → Int32, cf_Y 0 0 n K A B C w gts wrs → cf_Y 80 10 n K A B C w gts wrs → post 1 (f_size, f_size, 1, f_given, 0, gts, wrs, a_values, a_seen)) :
    wpY_build post (f_size, f_builtSize, f_isBuilt, f_given, f_state, a_gates, a_wires, a_values, a_seen) (nI c) := by
  refine br_f (nI_pos (by omega)) (br_t (nI_le (b := 1000) hc (by decide)) (cf_bu15 ?_))
  intro gts wrs g1 g2 w1 w2
  refine h gts wrs ⟨fun g hg => ?_, fun j hj => ?_⟩ ⟨fun g hg => ?_, fun j hj => ?_⟩
  · rw [g1 _ (by omega), g1 _ (by omega), g1 _ (by omega), g1 _ (by omega)]
    exact hY.1 g hg
  · rw [w1 _ (by omega)]
    exact hY.2 j hj
  · have := hY.1 g hg
    rw [Nat.zero_add] at this
    rw [Nat.add_assoc, Nat.add_assoc, Nat.add_assoc, g2 _ (by omega), g2 _ (by omega), g2 _ (by omega), g2 _ (by omega)]
    exact this
  · have := hY.2 j hj
    rw [Nat.zero_add] at this
    rw [w2 j hj]
    exact this
theorem cf_drY {post : Int32 → SY → Prop} {f_builtSize : Int32} {f_isBuilt : Int32} {f_given : Int32} {f_state : Int32} {a_gates : Nat → Int32} {a_wires : Nat → Int32} {a_values : Nat → Int32} {a_seen : Nat → Int32} {s : Nat} (hs : 12 + s < 32) (hw : ∀ j, j < 10 → w j < 32) (hW : ∀ j, j < 10 → a_wires j = nI (w j))
    (h : ∀ wrs : Nat → Int32, (∀ j, j < 10 → wrs j = nI (cf_dw (12 + s) w j)) → (∀ j, 10 ≤ j → wrs j = a_wires j) → post (nI (12 + s)) (nI s, f_builtSize, f_isBuilt, f_given, f_state, a_gates, wrs, a_values, a_seen)) :
    ∃ n, wY_drop_21 post (nI s) f_builtSize f_isBuilt f_given f_state n 0 a_gates a_wires a_values a_seen := by
  refine loop_0 (fun q i wrs => wY_drop_21 post (nI s) f_builtSize f_isBuilt f_given f_state q (nI i) a_gates wrs a_values a_seen) (fun i wrs => (∀ j, j < 10 → wrs j = nI (if j < i then cf_dw (12 + s) w j else w j)) ∧ ∀ j, 10 ≤ j → wrs j = a_wires j) 10 a_wires ⟨fun j hj => ?_, fun _ _ => rfl⟩ ?_ ?_
  · rw [if_neg (Nat.not_lt_zero j)]
    exact hW j hj
  · rintro q wrs ⟨h1, h2⟩
    refine br_t (by decide) ?_
    rw [cf_12]
    exact h wrs (fun j hj => by rw [h1 j hj, if_pos hj]) h2
  · rintro q i wrs hi ⟨h1, h2⟩ k
    have hj := hw i hi
    have ei := h1 i hi
    rw [if_neg (Nat.lt_irrefl i)] at ei
    have y := cf_at (f := wrs) (x := nI i) rfl (by omega) ei
    have hin : vp_in (nI i) 20 := vp_in_nI (by omega) (by decide)
    refine br_f (nI_ge (b := 10) hi (by decide)) ⟨hin, ?_⟩
    rw [y, cf_12, nI_eq (by omega) (by omega), nI_clamp (show i < 2 ^ 31 by omega)]
    have step : ∀ x : Int32, x = nI (cf_dw (12 + s) w i) → (∀ j, j < 10 → upd wrs i x j = nI (if j < i + 1 then cf_dw (12 + s) w j else w j)) ∧ ∀ j, 10 ≤ j → upd wrs i x j = a_wires j := by
      intro x hx
      refine ⟨fun j hj => ?_, fun j hj => ?_⟩
      · by_cases e : j = i
        · subst e
          rw [pk_us, if_pos (Nat.lt_succ_self j), hx]
        · rw [pk_un e, h1 j hj]
          by_cases hji : j < i
          · rw [if_pos hji, if_pos (by omega)]
          · rw [if_neg hji, if_neg (by omega)]
      · rw [pk_un (by omega)]
        exact h2 j hj
    refine br_c (fun e => ?_) (fun e => ⟨hin, hin, nm_e (nm_r (nI_1 i) (k _ (step _ ?_)))⟩)
    · by_cases h6 : i < 6
      · refine br_f (nI_ge (b := 6) h6 (by decide)) ⟨hin, nm_e (nm_r (nI_1 i) (k _ (step _ ?_)))⟩
        rw [cf_6]
        unfold cf_dw
        rw [if_pos e, if_pos h6]
      · refine br_t (nI_le (a := 6) (by omega) (by omega)) ⟨hin, nm_e (nm_r (nI_1 i) (k _ (step _ ?_)))⟩
        unfold cf_dw
        rw [if_pos e, if_neg h6]
        rfl
    · unfold cf_dw
      rw [if_neg e]
end CFY
end
section
/-! gate, clock; single steps -/
def cf_sg (n : Nat) (x : Int32) : Prop := ∃ j, j < 12 + n ∧ x = nI j
theorem cf_10n : ¬ (1 : Int32) = 0 := by decide
section CFX
variable {f_hasDevice : Int32} {f_cells : Int32} {f_inputLevels : Int32} {f_registerLevels : Int32} {a_kindOfGate : Nat → Int32} {a_firstOfGate : Nat → Int32} {a_secondOfGate : Nat → Int32} {a_thirdOfGate : Nat → Int32} {a_nextOfRegister : Nat → Int32} {a_shownByOutput : Nat → Int32} {a_placeOfSignal : Nat → Int32} {a_tableOfCell : Nat → Int32} {a_firstWireOfCell : Nat → Int32} {a_secondWireOfCell : Nat → Int32} {a_thirdWireOfCell : Nat → Int32} {a_wireOfRegister : Nat → Int32} {a_wireOfOutput : Nat → Int32}
theorem cf_isX0 {post : Int32 → Prop} {n : Nat} {x : Int32} (hn : n ≤ 20) (h : ¬ cf_sg n x) (hp : post 0) : wpX_isSignal post (nI n, f_hasDevice, f_cells, f_inputLevels, f_registerLevels, a_kindOfGate, a_firstOfGate, a_secondOfGate, a_thirdOfGate, a_nextOfRegister, a_shownByOutput, a_placeOfSignal, a_tableOfCell, a_firstWireOfCell, a_secondWireOfCell, a_thirdWireOfCell, a_wireOfRegister, a_wireOfOutput) x := by
  by_cases h0 : x < 0
  · exact br_t h0 hp
  · rcases pk_ix x (n := 12 + n) (by omega) with h1 | h1 | h1
    · exact absurd h1 h0
    · refine br_f h0 (br_t ?_ hp)
      rw [cf_12]
      exact h1
    · exact absurd h1 h
theorem cf_isX1 {post : Int32 → Prop} {n : Nat} {x : Int32} (hn : n ≤ 20) (h : cf_sg n x) (hp : post 1) : wpX_isSignal post (nI n, f_hasDevice, f_cells, f_inputLevels, f_registerLevels, a_kindOfGate, a_firstOfGate, a_secondOfGate, a_thirdOfGate, a_nextOfRegister, a_shownByOutput, a_placeOfSignal, a_tableOfCell, a_firstWireOfCell, a_secondWireOfCell, a_thirdWireOfCell, a_wireOfRegister, a_wireOfOutput) x := by
  obtain ⟨j, hj, rfl⟩ := h
  refine br_f (nI_pos (by omega)) (br_f ?_ hp)
  rw [cf_12]
  exact nI_ge hj (by omega)
theorem cf_gtX {post : Int32 → SX → Prop} {n : Nat} (hf : n < 20) (x1 x2 x3 x4 x5 : Int32) (z : Int32) (hz : (x5 = 0 ∧ z = x2) ∨ (¬ x5 = 0 ∧ z = x4))
    (h : post (nI (12 + n)) (nI (n + 1), f_hasDevice, f_cells, f_inputLevels, f_registerLevels, upd a_kindOfGate n x1, upd a_firstOfGate n x2, upd a_secondOfGate n x3, upd a_thirdOfGate n z, a_nextOfRegister, a_shownByOutput, a_placeOfSignal, a_tableOfCell, a_firstWireOfCell, a_secondWireOfCell, a_thirdWireOfCell, a_wireOfRegister, a_wireOfOutput)) :
    wX_gate_57 post x1 x2 x3 x4 x5 (nI n) f_hasDevice f_cells f_inputLevels f_registerLevels a_kindOfGate a_firstOfGate a_secondOfGate a_thirdOfGate a_nextOfRegister a_shownByOutput a_placeOfSignal a_tableOfCell a_firstWireOfCell a_secondWireOfCell a_thirdWireOfCell a_wireOfRegister a_wireOfOutput := by
  have hin : vp_in (nI n) 20 := vp_in_nI hf (by decide)
  have ec : (nI n).toNatClampNeg = n := nI_clamp (by omega)
  have er : 12 + nI (n + 1) - 1 = nI (12 + n) := by
    rw [cf_12, show 12 + (n + 1) = (12 + n) + 1 by omega, nI_pred]
  refine br_t (nI_lt (b := 20) hf (by decide)) ⟨hin, nm_e ⟨hin, nm_e ⟨hin, nm_e ?_⟩⟩⟩
  rw [ec]
  rcases hz with ⟨h5, rfl⟩ | ⟨h5, rfl⟩
  · refine br_t h5 ⟨hin, nm_e (nm_r (nI_1 n) ?_)⟩
    rw [ec, er]
    exact h
  · refine br_f h5 ⟨hin, nm_e (nm_r (nI_1 n) ?_)⟩
    rw [ec, er]
    exact h
theorem cf_gtX2 {post : Int32 → SX → Prop} {n : Nat} (hf : ¬ n < 20) (hn : n ≤ 20) (x1 x2 x3 x4 x5 : Int32) (h : post (-2) (nI n, f_hasDevice, f_cells, f_inputLevels, f_registerLevels, a_kindOfGate, a_firstOfGate, a_secondOfGate, a_thirdOfGate, a_nextOfRegister, a_shownByOutput, a_placeOfSignal, a_tableOfCell, a_firstWireOfCell, a_secondWireOfCell, a_thirdWireOfCell, a_wireOfRegister, a_wireOfOutput)) :
    wX_gate_57 post x1 x2 x3 x4 x5 (nI n) f_hasDevice f_cells f_inputLevels f_registerLevels a_kindOfGate a_firstOfGate a_secondOfGate a_thirdOfGate a_nextOfRegister a_shownByOutput a_placeOfSignal a_tableOfCell a_firstWireOfCell a_secondWireOfCell a_thirdWireOfCell a_wireOfRegister a_wireOfOutput := br_f (nI_nlt (b := 20) (by omega) (by omega)) h
end CFX
section CFY
variable {f_builtSize : Int32} {f_isBuilt : Int32} {f_given : Int32} {f_state : Int32} {a_gates : Nat → Int32} {a_wires : Nat → Int32} {a_values : Nat → Int32} {a_seen : Nat → Int32}
theorem cf_isY0 {post : Int32 → Prop} {n : Nat} {x : Int32} (hn : n ≤ 20) (h : ¬ cf_sg n x) (hp : post 0) : wpY_signal post (nI n, f_builtSize, f_isBuilt, f_given, f_state, a_gates, a_wires, a_values, a_seen) x := by
  by_cases h0 : x < 0
  · exact br_t h0 hp
  · rcases pk_ix x (n := 12 + n) (by omega) with h1 | h1 | h1
    · exact absurd h1 h0
    · refine br_f h0 (br_t ?_ hp)
      rw [cf_12]
      exact h1
    · exact absurd h1 h
theorem cf_isY1 {post : Int32 → Prop} {n : Nat} {x : Int32} (hn : n ≤ 20) (h : cf_sg n x) (hp : post 1) : wpY_signal post (nI n, f_builtSize, f_isBuilt, f_given, f_state, a_gates, a_wires, a_values, a_seen) x := by
  obtain ⟨j, hj, rfl⟩ := h
  refine br_f (nI_pos (by omega)) (br_f ?_ hp)
  rw [cf_12]
  exact nI_ge hj (by omega)
theorem cf_gtY {post : Int32 → SY → Prop} {n : Nat} (hf : n < 20) (x1 x2 x3 x4 : Int32) (z : Int32) (hz : (x1 < 7 ∧ z = 0) ∨ (¬ x1 < 7 ∧ z = x4))
    (h : post (nI (12 + n)) (nI (n + 1), f_builtSize, f_isBuilt, f_given, f_state, upd (upd (upd (upd a_gates (4 * n) x1) (4 * n + 1) x2) (4 * n + 2) x3) (4 * n + 3) z, a_wires, a_values, a_seen)) :
    wY_gate_43 post x1 x2 x3 x4 (nI n) f_builtSize f_isBuilt f_given f_state a_gates a_wires a_values a_seen := by
  have e0 : 4 * nI n = nI (4 * n) := cf_4m n
  have e1 : 4 * nI n + 1 = nI (4 * n + 1) := by rw [e0, cf_a1]
  have e2 : 4 * nI n + 2 = nI (4 * n + 2) := by rw [e0, cf_a2]
  have e3 : 4 * nI n + 3 = nI (4 * n + 3) := by rw [e0, cf_a3]
  have er : 11 + nI (n + 1) = nI (12 + n) := by
    have : (11 : Int32) + nI (n + 1) = nI (11 + (n + 1)) := nI_add 11 (n + 1)
    rw [this, show 11 + (n + 1) = 12 + n by omega]
  refine br_t (nI_lt (b := 20) hf (by decide)) ⟨cf_in e0 (by omega) (by decide), nm_e ⟨cf_in e1 (by omega) (by decide), nm_e ⟨cf_in e2 (by omega) (by decide), nm_e ?_⟩⟩⟩
  rw [pk_cl _ e0 (by omega), pk_cl _ e1 (by omega), pk_cl _ e2 (by omega)]
  rcases hz with ⟨h5, rfl⟩ | ⟨h5, rfl⟩
  · refine br_t h5 ⟨cf_in e3 (by omega) (by decide), nm_e (nm_r (nI_1 n) ?_)⟩
    rw [pk_cl _ e3 (by omega), er]
    exact h
  · refine br_f h5 ⟨cf_in e3 (by omega) (by decide), nm_e (nm_r (nI_1 n) ?_)⟩
    rw [pk_cl _ e3 (by omega), er]
    exact h
theorem cf_gtY2 {post : Int32 → SY → Prop} {n : Nat} (hf : ¬ n < 20) (hn : n ≤ 20) (x1 x2 x3 x4 : Int32) (h : post (-2) (nI n, f_builtSize, f_isBuilt, f_given, f_state, a_gates, a_wires, a_values, a_seen)) :
    wY_gate_43 post x1 x2 x3 x4 (nI n) f_builtSize f_isBuilt f_given f_state a_gates a_wires a_values a_seen := br_f (nI_nlt (b := 20) (by omega) (by omega)) h
end CFY
section CFC
variable {m : Nat} {K A B C w P : Nat → Nat}
theorem cf_ckX {post : Int32 → SX → Prop} {f_gates : Int32} {f_hasDevice : Int32} {f_inputLevels : Int32} {a_kindOfGate : Nat → Int32} {a_firstOfGate : Nat → Int32} {a_secondOfGate : Nat → Int32} {a_thirdOfGate : Nat → Int32} {a_nextOfRegister : Nat → Int32} {a_shownByOutput : Nat → Int32} {a_placeOfSignal : Nat → Int32} {a_tableOfCell : Nat → Int32} {a_firstWireOfCell : Nat → Int32} {a_secondWireOfCell : Nat → Int32} {a_thirdWireOfCell : Nat → Int32} {a_wireOfRegister : Nat → Int32} {a_wireOfOutput : Nat → Int32} (hd : ¬ f_hasDevice = 0) (hC : cf_C m K A B C w) (hD : cf_D m K A B C w P a_placeOfSignal a_tableOfCell a_firstWireOfCell a_secondWireOfCell a_thirdWireOfCell a_wireOfRegister a_wireOfOutput)
    (R c : Nat) (hc : c ≤ 20) (h : post (nI (cf_it (cf_st K A B C w f_inputLevels) R c)) (f_gates, f_hasDevice, nI m, f_inputLevels, nI (cf_it (cf_st K A B C w f_inputLevels) R c), a_kindOfGate, a_firstOfGate, a_secondOfGate, a_thirdOfGate, a_nextOfRegister, a_shownByOutput, a_placeOfSignal, a_tableOfCell, a_firstWireOfCell, a_secondWireOfCell, a_thirdWireOfCell, a_wireOfRegister, a_wireOfOutput)) :
    wpX_clock post (f_gates, f_hasDevice, nI m, f_inputLevels, nI R, a_kindOfGate, a_firstOfGate, a_secondOfGate, a_thirdOfGate, a_nextOfRegister, a_shownByOutput, a_placeOfSignal, a_tableOfCell, a_firstWireOfCell, a_secondWireOfCell, a_thirdWireOfCell, a_wireOfRegister, a_wireOfOutput) (nI c) := by
  refine br_f hd (br_f (nI_pos (by omega)) (br_t (nI_le (b := 20) hc (by decide)) ?_))
  refine loop_0 (fun n i (_ : Unit) => wX_clock_21 post (nI c) f_gates f_hasDevice (nI m) f_inputLevels a_kindOfGate a_firstOfGate a_secondOfGate a_thirdOfGate a_nextOfRegister a_shownByOutput a_placeOfSignal a_tableOfCell a_firstWireOfCell a_secondWireOfCell a_thirdWireOfCell a_wireOfRegister a_wireOfOutput n (nI i) (nI (cf_it (cf_st K A B C w f_inputLevels) R i))) (fun _ _ => True) c () trivial (fun n _ _ => br_t (nI_le (Nat.le_refl c) (by omega)) h) ?_
  intro n i _ hi _ k
  exact br_f (nI_ge hi (by omega)) (cf_afX hC hD _ (nm_r (nI_1 i) (k () trivial)))
theorem cf_ckY {post : Int32 → SY → Prop} {f_size : Int32} {f_isBuilt : Int32} {f_given : Int32} {a_gates : Nat → Int32} {a_wires : Nat → Int32} {a_values : Nat → Int32} {a_seen : Nat → Int32} (hb : ¬ f_isBuilt = 0) (hC : cf_C m K A B C w) (hY : cf_Y 80 10 m K A B C w a_gates a_wires)
    (R c : Nat) (hc : c ≤ 20) (h : ∀ val : Nat → Int32, post (nI (cf_it (cf_st K A B C w f_given) R c)) (f_size, nI m, f_isBuilt, f_given, nI (cf_it (cf_st K A B C w f_given) R c), a_gates, a_wires, val, a_seen)) :
    wpY_clock post (f_size, nI m, f_isBuilt, f_given, nI R, a_gates, a_wires, a_values, a_seen) (nI c) := by
  refine br_f hb (br_f (nI_pos (by omega)) (br_t (nI_le (b := 20) hc (by decide)) ?_))
  refine loop_0 (fun n i val => wY_clock_21 post (nI c) n (nI i) f_size (nI m) f_isBuilt f_given (nI (cf_it (cf_st K A B C w f_given) R i)) a_gates a_wires val a_seen) (fun _ _ => True) c a_values trivial (fun n val _ => br_t (nI_le (Nat.le_refl c) (by omega)) (h val)) ?_
  intro n i val hi _ k
  refine br_f (nI_ge hi (by omega)) (cf_foY hC hY _ ?_)
  intro val'
  exact nm_r (nI_1 i) (k val' trivial)
end CFC
theorem cf_wbX {post : Int32 → Prop} {x i v : Int32} (h : post ((x &&& (((1 : Int32) <<< (i &&& 31)) ^^^ (-1))) ||| (v <<< (i &&& 31)))) : wpX_withBit post x i v := h
theorem cf_lvX0 {post : Int32 → Prop} {x : Int32} (h0 : ¬ x = 0) (h1 : ¬ x = 1) (h : post 0) : wpX_isLevel post x := br_f h0 (br_f h1 h)
theorem cf_lvX1 {post : Int32 → Prop} {x : Int32} (hx : x = 0 ∨ x = 1) (h : post 1) : wpX_isLevel post x := by
  rcases hx with rfl | rfl
  · exact br_t rfl h
  · exact br_f (by decide) (br_t rfl h)
theorem cf_rgX1 {post : Int32 → Prop} {j : Nat} (hj : j < 6) (h : post 1) : wpX_isRegister post (nI j) := br_f (nI_pos (by omega)) (br_f (nI_ge (b := 6) hj (by decide)) h)
theorem cf_rgX0 {post : Int32 → Prop} {x : Int32} (hx : x < 0 ∨ 6 ≤ x) (h : post 0) : wpX_isRegister post x := by
  by_cases h0 : x < 0
  · exact br_t h0 h
  · rcases hx with h1 | h1
    · exact absurd h1 h0
    · exact br_f h0 (br_t h1 h)
theorem cf_lev {x : Int32} (h0 : ¬ x = 0) (h1 : ¬ x = 1) : x < 0 ∨ (¬ x < 0 ∧ ¬ x ≤ 1) := by
  by_cases hx : x < 0
  · exact Or.inl hx
  · refine Or.inr ⟨hx, fun h2 => ?_⟩
    obtain ⟨j, hj, rfl⟩ := nI_of2 (x := x) (M := 1) (n := 1) (by decide) hx h2
    have : j = 0 ∨ j = 1 := by omega
    rcases this with rfl | rfl
    · exact h0 rfl
    · exact h1 rfl
theorem cf_levOk {x : Int32} (hx : x = 0 ∨ x = 1) : ¬ x < 0 ∧ x ≤ 1 := by
  rcases hx with rfl | rfl
  · decide
  · decide
theorem cf_l6 {x : Int32} (h : 6 ≤ x) : ¬ x < 0 ∧ 5 < x := by
  have a6 : (6 : Int32).toInt = 6 := by decide
  have a5 : (5 : Int32).toInt = 5 := by decide
  have a0 : (0 : Int32).toInt = 0 := by decide
  rw [Int32.le_iff_toInt_le, a6] at h
  rw [Int32.lt_iff_toInt_lt, Int32.lt_iff_toInt_lt, a5, a0]
  omega
theorem cf_l4 {x : Int32} (h : 4 ≤ x) : ¬ x < 0 ∧ 3 < x := by
  have a6 : (4 : Int32).toInt = 4 := by decide
  have a5 : (3 : Int32).toInt = 3 := by decide
  have a0 : (0 : Int32).toInt = 0 := by decide
  rw [Int32.le_iff_toInt_le, a6] at h
  rw [Int32.lt_iff_toInt_lt, Int32.lt_iff_toInt_lt, a5, a0]
  omega
theorem cf_wb64 : ∀ R, R < 64 → ∀ r, r < 6 → ∀ v, v < 2 → ((nI R &&& (((1 : Int32) <<< (nI r &&& 31)) ^^^ (-1))) ||| (nI v <<< (nI r &&& 31))).toBitVec.toNat < 64 := by decide +kernel
theorem cf_ofB (x : Int32) : x = nI x.toBitVec.toNat := Int32.toBitVec_inj.mp (by show _ = BitVec.ofNat 32 _; simp)
/-! the relation -/
def cf_Ci (gates size : Int32) (kind fst snd thd nxt shn gts wrs : Nat → Int32) : Prop :=
  ∃ (n : Nat) (K A B C w : Nat → Nat), gates = nI n ∧ size = nI n ∧ cf_C n K A B C w ∧ cf_X n K A B C w kind fst snd thd nxt shn ∧ cf_Y 0 0 n K A B C w gts wrs
def cf_De (has cells reg : Int32) (plc tab w1 w2 w3 wr wo : Nat → Int32) (bs st : Int32) (gts wrs : Nat → Int32) : Prop :=
  has = 0 ∨ (has = 1 ∧ ∃ (m : Nat) (K A B C w P : Nat → Nat) (R : Nat), cells = nI m ∧ bs = nI m ∧ reg = nI R ∧ st = nI R ∧ R < 64 ∧ cf_C m K A B C w ∧ cf_D m K A B C w P plc tab w1 w2 w3 wr wo ∧ cf_Y 80 10 m K A B C w gts wrs)
def i_Rel (k : Nat) (u : SX) (v : SY) : Prop := match u, v with
  | (f_gates, f_hasDevice, f_cells, f_inputLevels, f_registerLevels, a_kindOfGate, a_firstOfGate, a_secondOfGate, a_thirdOfGate, a_nextOfRegister, a_shownByOutput, a_placeOfSignal, a_tableOfCell, a_firstWireOfCell, a_secondWireOfCell, a_thirdWireOfCell, a_wireOfRegister, a_wireOfOutput), (f_size, f_builtSize, f_isBuilt, f_given, f_state, a_gates, a_wires, a_values, a_seen) => f_given = f_inputLevels ∧ f_isBuilt = f_hasDevice ∧ cf_Ci f_gates f_size a_kindOfGate a_firstOfGate a_secondOfGate a_thirdOfGate a_nextOfRegister a_shownByOutput a_gates a_wires ∧ cf_De f_hasDevice f_cells f_registerLevels a_placeOfSignal a_tableOfCell a_firstWireOfCell a_secondWireOfCell a_thirdWireOfCell a_wireOfRegister a_wireOfOutput f_builtSize f_state a_gates a_wires
theorem cf_Yc {o4 ow n : Nat} {K A B C w : Nat → Nat} {gts wrs gts' wrs' : Nat → Int32} (hg : ∀ j, o4 ≤ j → gts' j = gts j) (hw : ∀ j, ow ≤ j → wrs' j = wrs j) (h : cf_Y o4 ow n K A B C w gts wrs) : cf_Y o4 ow n K A B C w gts' wrs' := by
  refine ⟨fun g hn => ?_, fun j hj => ?_⟩
  · rw [hg _ (by omega), hg _ (by omega), hg _ (by omega), hg _ (by omega)]
    exact h.1 g hn
  · rw [hw _ (by omega)]
    exact h.2 j hj
theorem cf_DeC {has cells reg : Int32} {plc tab w1 w2 w3 wr wo : Nat → Int32} {bs st : Int32} {gts wrs gts' wrs' : Nat → Int32} (hg : ∀ j, 80 ≤ j → gts' j = gts j) (hw : ∀ j, 10 ≤ j → wrs' j = wrs j)
    (h : cf_De has cells reg plc tab w1 w2 w3 wr wo bs st gts wrs) : cf_De has cells reg plc tab w1 w2 w3 wr wo bs st gts' wrs' := by
  rcases h with h | ⟨h1, m, K, A, B, C, w, P, R, a1, a2, a3, a4, a5, a6, a7, a8⟩
  · exact Or.inl h
  · exact Or.inr ⟨h1, m, K, A, B, C, w, P, R, a1, a2, a3, a4, a5, a6, a7, cf_Yc hg hw a8⟩
theorem cf_add {n : Nat} {K A B C w : Nat → Nat} {kind fst snd thd nxt shn gts wrs : Nat → Int32} (hC : cf_C n K A B C w) (hX : cf_X n K A B C w kind fst snd thd nxt shn) (hY : cf_Y 0 0 n K A B C w gts wrs)
    (hf : n < 20) {q a b c : Nat} (hq : q < 10) (ha : a < 12 + n) (hb : b < 12 + n) (hc : c < 12 + n) :
    cf_Ci (nI (n + 1)) (nI (n + 1)) (upd kind n (nI q)) (upd fst n (nI a)) (upd snd n (nI b)) (upd thd n (nI (if q < 7 then a else c))) nxt shn (upd (upd (upd (upd gts (4 * n) (nI q)) (4 * n + 1) (nI a)) (4 * n + 2) (nI b)) (4 * n + 3) (nI c)) wrs := by
  refine ⟨n + 1, fun g => if g = n then q else K g, fun g => if g = n then a else A g, fun g => if g = n then b else B g, fun g => if g = n then c else C g, w, rfl, rfl, ⟨by omega, ?_, ?_⟩, ⟨?_, hX.2.1, hX.2.2⟩, ⟨?_, hY.2⟩⟩
  · intro g hg
    dsimp only
    by_cases e : g = n
    · subst e
      rw [if_pos rfl, if_pos rfl, if_pos rfl, if_pos rfl]
      exact ⟨hq, ha, hb, hc⟩
    · rw [if_neg e, if_neg e, if_neg e, if_neg e]
      exact hC.2.1 g (by omega)
  · intro j hj
    have := hC.2.2 j hj
    omega
  · intro g hg
    dsimp only
    by_cases e : g = n
    · subst e
      simp only [↓reduceIte]
      exact ⟨pk_us, pk_us, pk_us, pk_us⟩
    · simp only [if_neg e]
      rw [pk_un e, pk_un e, pk_un e, pk_un e]
      exact hX.1 g (by omega)
  · intro g hg
    dsimp only
    rw [Nat.zero_add]
    by_cases e : g = n
    · subst e
      rw [if_pos rfl, if_pos rfl, if_pos rfl, if_pos rfl]
      refine ⟨?_, ?_, ?_, pk_us⟩
      · rw [pk_un (by omega), pk_un (by omega), pk_un (by omega), pk_us]
      · rw [pk_un (by omega), pk_un (by omega), pk_us]
      · rw [pk_un (by omega), pk_us]
    · rw [if_neg e, if_neg e, if_neg e, if_neg e]
      have := hY.1 g (by omega)
      rw [Nat.zero_add] at this
      obtain ⟨t0, t1, t2, t3⟩ := this
      refine ⟨?_, ?_, ?_, ?_⟩
      · rw [pk_un (by omega), pk_un (by omega), pk_un (by omega), pk_un (by omega)]
        exact t0
      · rw [pk_un (by omega), pk_un (by omega), pk_un (by omega), pk_un (by omega)]
        exact t1
      · rw [pk_un (by omega), pk_un (by omega), pk_un (by omega), pk_un (by omega)]
        exact t2
      · rw [pk_un (by omega), pk_un (by omega), pk_un (by omega), pk_un (by omega)]
        exact t3
theorem cf_addE {n : Nat} (hf : n < 20) (gts : Nat → Int32) (a b c d : Int32) : ∀ j, 80 ≤ j → upd (upd (upd (upd gts (4 * n) a) (4 * n + 1) b) (4 * n + 2) c) (4 * n + 3) d j = gts j := by
  intro j hj
  rw [pk_un (by omega), pk_un (by omega), pk_un (by omega), pk_un (by omega)]
theorem cf_wire {n : Nat} {K A B C w : Nat → Nat} (hC : cf_C n K A B C w) {a s : Nat} (hs : s < 12 + n) : cf_C n K A B C (fun j => if j = a then s else w j) := by
  refine ⟨hC.1, hC.2.1, fun j hj => ?_⟩
  dsimp only
  split
  · exact hs
  · exact hC.2.2 j hj
theorem cf_wires {n : Nat} {K A B C w : Nat → Nat} {gts wrs : Nat → Int32} (hY : cf_Y 0 0 n K A B C w gts wrs) {a s : Nat} : cf_Y 0 0 n K A B C (fun j => if j = a then s else w j) gts (upd wrs a (nI s)) := by
  refine ⟨hY.1, fun j hj => ?_⟩
  have := hY.2 j hj
  rw [Nat.zero_add] at this ⊢
  by_cases e : j = a
  · subst e
    rw [pk_us]
    dsimp only
    rw [if_pos rfl]
  · rw [pk_un e]
    dsimp only
    rw [if_neg e]
    exact this
theorem cf_wireE {a : Nat} (ha : a < 10) (wrs : Nat → Int32) (x : Int32) : ∀ j, 10 ≤ j → upd wrs a x j = wrs j := fun j hj => pk_un (by omega)
theorem cf_dwC {n : Nat} {K A B C w : Nat → Nat} (hC : cf_C (n + 1) K A B C w) : cf_C n K A B C (cf_dw (12 + n) w) := by
  refine ⟨by have := hC.1; omega, fun g hg => hC.2.1 g (by omega), fun j hj => ?_⟩
  have := hC.2.2 j hj
  unfold cf_dw
  split
  · split <;> omega
  · omega
end
section
/-! what is owed -/
theorem i_up {k : Nat} {u : SX} {v : SY} (h : i_Rel k u v) : i_Rel (k + 5) u v := h
theorem i_vc0 : wpX_init (fun u => wpY_init (fun v => i_Rel 0 u v)) := by
  refine loop_0 (fun n i nxt => wX_init_108 (fun u => wpY_init (fun v => i_Rel 0 u v)) 0 0 0 0 0 n (nI i) (fun _ => 0) (fun _ => 0) (fun _ => 0) (fun _ => 0) nxt (fun _ => 0) (fun _ => 0) (fun _ => 0) (fun _ => 0) (fun _ => 0) (fun _ => 0) (fun _ => 0) (fun _ => 0)) (fun i nxt => ∀ r, r < i → nxt r = nI (6 + r)) 6 (fun _ => 0) (fun j hj => absurd hj (Nat.not_lt_zero j)) ?_ ?_
  · intro n nxt hx
    refine br_t (by decide) ?_
    refine loop_0 (fun n i wrs => wY_init_39 (fun v => i_Rel 0 (0, 0, 0, 0, 0, (fun _ => 0), (fun _ => 0), (fun _ => 0), (fun _ => 0), nxt, (fun _ => 0), (fun _ => 0), (fun _ => 0), (fun _ => 0), (fun _ => 0), (fun _ => 0), (fun _ => 0), (fun _ => 0)) v) 0 0 0 0 0 n (nI i) (fun _ => 0) wrs (fun _ => 0) (fun _ => 0)) (fun i wrs => (∀ r, r < i → wrs r = nI (6 + r)) ∧ ∀ j, 6 ≤ j → wrs j = 0) 6 (fun _ => 0) ⟨fun j hj => absurd hj (Nat.not_lt_zero j), fun _ _ => rfl⟩ ?_ ?_
    · rintro n wrs ⟨h1, h2⟩
      refine br_t (by decide) ⟨rfl, rfl, ?_, Or.inl rfl⟩
      refine ⟨0, fun _ => 0, fun _ => 0, fun _ => 0, fun _ => 0, fun j => if j < 6 then 6 + j else 0, rfl, rfl, ⟨by omega, fun g hg => absurd hg (Nat.not_lt_zero g), fun j hj => ?_⟩, ⟨fun g hg => absurd hg (Nat.not_lt_zero g), fun r hr => ?_, fun o ho => ?_⟩, ⟨fun g hg => absurd hg (Nat.not_lt_zero g), fun j hj => ?_⟩⟩
      · dsimp only
        split <;> omega
      · dsimp only
        rw [hx r hr, if_pos hr]
      · dsimp only
        rw [if_neg (by omega)]
        rfl
      · dsimp only
        rw [Nat.zero_add]
        by_cases h6 : j < 6
        · rw [h1 j h6, if_pos h6]
        · rw [h2 j (by omega), if_neg h6]
          rfl
    · rintro n i wrs hi ⟨h1, h2⟩ k
      refine br_f (nI_ge (b := 6) hi (by decide)) ⟨vp_in_nI (by omega) (by decide), nm_e (nm_r (nI_1 i) (k _ ?_))⟩
      rw [nI_clamp (show i < 2 ^ 31 by omega), cf_6]
      refine ⟨fun r hr => ?_, fun j hj => ?_⟩
      · by_cases e : r = i
        · subst e
          exact pk_us
        · rw [pk_un e]
          exact h1 r (by omega)
      · rw [pk_un (by omega)]
        exact h2 j hj
  · intro n i nxt hi hx k
    refine br_f (nI_ge (b := 6) hi (by decide)) ⟨vp_in_nI (by omega) (by decide), nm_e (nm_r (nI_1 i) (k _ ?_))⟩
    rw [nI_clamp (show i < 2 ^ 31 by omega), cf_6]
    intro r hr
    by_cases e : r = i
    · subst e
      exact pk_us
    · rw [pk_un e]
      exact hx r (by omega)
theorem i_vc_gate {k : Nat} {u : SX} {v : SY} (I : i_Rel k u v) (hk : k + 5 ≤ 2560) (v1 : Int32) (v2 : Int32) (v3 : Int32) (v4 : Int32) : wpX_gate (fun r u' => wpY_gate (fun r' v' => r' = r ∧ i_Rel (k + 5) u' v') v v1 v2 v3 v4) u v1 v2 v3 v4 := by
  obtain ⟨f_gates, f_hasDevice, f_cells, f_inputLevels, f_registerLevels, a_kindOfGate, a_firstOfGate, a_secondOfGate, a_thirdOfGate, a_nextOfRegister, a_shownByOutput, a_placeOfSignal, a_tableOfCell, a_firstWireOfCell, a_secondWireOfCell, a_thirdWireOfCell, a_wireOfRegister, a_wireOfOutput⟩ := u
  obtain ⟨f_size, f_builtSize, f_isBuilt, f_given, f_state, a_gates, a_wires, a_values, a_seen⟩ := v
  have J := i_up I
  obtain ⟨hg, hb, ⟨n, K, A, B, C, w, rfl, rfl, hC, hX, hY⟩, hE⟩ := I
  have hn := hC.1
  by_cases h0 : v1 < 0
  · exact br_t h0 (br_t h0 ⟨rfl, J⟩)
  by_cases h9 : 9 < v1
  · exact br_f h0 (br_t h9 (br_f h0 (br_t h9 ⟨rfl, J⟩)))
  by_cases s2 : cf_sg n v2
  case neg => exact br_f h0 (br_f h9 (cf_isX0 hn s2 (br_t rfl (br_f h0 (br_f h9 (cf_isY0 hn s2 (br_t rfl ⟨rfl, J⟩)))))))
  by_cases s3 : cf_sg n v3
  case neg => exact br_f h0 (br_f h9 (cf_isX1 hn s2 (br_f cf_10n (cf_isX0 hn s3 (br_t rfl (br_f h0 (br_f h9 (cf_isY1 hn s2 (br_f cf_10n (cf_isY0 hn s3 (br_t rfl ⟨rfl, J⟩)))))))))))
  obtain ⟨q, hq, rfl⟩ := nI_of2 (x := v1) (M := 9) (n := 9) (by decide) h0 (Int32.not_lt.mp h9)
  have s2' := s2
  have s3' := s3
  obtain ⟨a, ha, rfl⟩ := s2
  obtain ⟨b, hb2, rfl⟩ := s3
  by_cases h7 : nI q < 7
  · have h7q : q < 7 := (nI_ltI (b := 7) (by omega) (by decide)).mp h7
    by_cases hf : n < 20
    · refine br_f h0 (br_f h9 (cf_isX1 hn s2' (br_f cf_10n (cf_isX1 hn s3' (br_f cf_10n (br_t h7 (br_t rfl (cf_gtX hf _ _ _ _ _ _ (Or.inl ⟨rfl, rfl⟩) ?_))))))))
      refine br_f h0 (br_f h9 (cf_isY1 hn s2' (br_f cf_10n (cf_isY1 hn s3' (br_f cf_10n (br_t h7 (cf_gtY hf _ _ _ _ _ (Or.inl ⟨h7, rfl⟩) ⟨rfl, hg, hb, ?_, cf_DeC (cf_addE hf _ _ _ _ _) (fun _ _ => rfl) hE⟩)))))))
      have R := cf_add hC hX hY hf (q := q) (a := a) (b := b) (c := 0) (by omega) ha hb2 (by omega)
      rw [if_pos h7q] at R
      exact R
    · exact br_f h0 (br_f h9 (cf_isX1 hn s2' (br_f cf_10n (cf_isX1 hn s3' (br_f cf_10n (br_t h7 (br_t rfl (cf_gtX2 hf hn _ _ _ _ _ (br_f h0 (br_f h9 (cf_isY1 hn s2' (br_f cf_10n (cf_isY1 hn s3' (br_f cf_10n (br_t h7 (cf_gtY2 hf hn _ _ _ _ ⟨rfl, J⟩))))))))))))))))
  · have h7q : ¬ q < 7 := fun z => h7 (nI_lt (b := 7) z (by decide))
    by_cases s4 : cf_sg n v4
    · have s4' := s4
      obtain ⟨c, hc, rfl⟩ := s4
      by_cases hf : n < 20
      · refine br_f h0 (br_f h9 (cf_isX1 hn s2' (br_f cf_10n (cf_isX1 hn s3' (br_f cf_10n (br_f h7 (br_f cf_10n (cf_isX1 hn s4' (br_f cf_10n (cf_gtX hf _ _ _ _ _ _ (Or.inr ⟨cf_10n, rfl⟩) ?_))))))))))
        refine br_f h0 (br_f h9 (cf_isY1 hn s2' (br_f cf_10n (cf_isY1 hn s3' (br_f cf_10n (br_f h7 (cf_isY1 hn s4' (br_f cf_10n (cf_gtY hf _ _ _ _ _ (Or.inr ⟨h7, rfl⟩) ⟨rfl, hg, hb, ?_, cf_DeC (cf_addE hf _ _ _ _ _) (fun _ _ => rfl) hE⟩)))))))))
        have R := cf_add hC hX hY hf (q := q) (a := a) (b := b) (c := c) (by omega) ha hb2 hc
        rw [if_neg h7q] at R
        exact R
      · exact br_f h0 (br_f h9 (cf_isX1 hn s2' (br_f cf_10n (cf_isX1 hn s3' (br_f cf_10n (br_f h7 (br_f cf_10n (cf_isX1 hn s4' (br_f cf_10n (cf_gtX2 hf hn _ _ _ _ _ (br_f h0 (br_f h9 (cf_isY1 hn s2' (br_f cf_10n (cf_isY1 hn s3' (br_f cf_10n (br_f h7 (cf_isY1 hn s4' (br_f cf_10n (cf_gtY2 hf hn _ _ _ _ ⟨rfl, J⟩))))))))))))))))))))
    · exact br_f h0 (br_f h9 (cf_isX1 hn s2' (br_f cf_10n (cf_isX1 hn s3' (br_f cf_10n (br_f h7 (br_f cf_10n (cf_isX0 hn s4 (br_t rfl (br_f h0 (br_f h9 (cf_isY1 hn s2' (br_f cf_10n (cf_isY1 hn s3' (br_f cf_10n (br_f h7 (cf_isY0 hn s4 (br_t rfl ⟨rfl, J⟩))))))))))))))))))
theorem i_vc_drop {k : Nat} {u : SX} {v : SY} (I : i_Rel k u v) (hk : k + 5 ≤ 2560) : wpX_drop (fun r u' => wpY_drop (fun r' v' => r' = r ∧ i_Rel (k + 5) u' v') v) u := by
  obtain ⟨f_gates, f_hasDevice, f_cells, f_inputLevels, f_registerLevels, a_kindOfGate, a_firstOfGate, a_secondOfGate, a_thirdOfGate, a_nextOfRegister, a_shownByOutput, a_placeOfSignal, a_tableOfCell, a_firstWireOfCell, a_secondWireOfCell, a_thirdWireOfCell, a_wireOfRegister, a_wireOfOutput⟩ := u
  obtain ⟨f_size, f_builtSize, f_isBuilt, f_given, f_state, a_gates, a_wires, a_values, a_seen⟩ := v
  have J := i_up I
  obtain ⟨hg, hb, ⟨n, K, A, B, C, w, rfl, rfl, hC, hX, hY⟩, hE⟩ := I
  have hn := hC.1
  cases n with
  | zero => exact br_f (by decide) (br_t (by decide) ⟨rfl, J⟩)
  | succ n =>
    have hw : ∀ j, j < 10 → w j < 32 := fun j hj => by have := hC.2.2 j hj; omega
    refine br_t (nI_lt (a := 0) (by omega) (by omega)) (nm_r (nI_pred n) ?_)
    rw [cf_12]
    refine cf_fgX (by omega) hw hX.2.1 hX.2.2 ?_
    intro nxt shn h1 h2
    dsimp only
    refine br_f (nI_ne0 (by omega) (by omega)) (nm_r (nI_pred n) (cf_drY (by omega) hw (fun j hj => ?_) ?_))
    · have := hY.2 j hj
      rw [Nat.zero_add] at this
      exact this
    · intro wrs h3 h4
      refine ⟨(cf_12 n).symm, hg, hb, ⟨n, K, A, B, C, cf_dw (12 + n) w, rfl, rfl, cf_dwC hC, ⟨fun g hg => hX.1 g (by omega), h1, h2⟩, ⟨fun g hg => hY.1 g (by omega), fun j hj => ?_⟩⟩, cf_DeC (fun _ _ => rfl) h4 hE⟩
      rw [Nat.zero_add]
      exact h3 j hj
theorem i_vc_signals {k : Nat} {u : SX} {v : SY} (I : i_Rel k u v) (hk : k + 5 ≤ 2560) : wpX_signals (fun r => wpY_signals (fun r' => r' = r ∧ i_Rel (k + 5) u v) v) u := by
  obtain ⟨f_gates, f_hasDevice, f_cells, f_inputLevels, f_registerLevels, a_kindOfGate, a_firstOfGate, a_secondOfGate, a_thirdOfGate, a_nextOfRegister, a_shownByOutput, a_placeOfSignal, a_tableOfCell, a_firstWireOfCell, a_secondWireOfCell, a_thirdWireOfCell, a_wireOfRegister, a_wireOfOutput⟩ := u
  obtain ⟨f_size, f_builtSize, f_isBuilt, f_given, f_state, a_gates, a_wires, a_values, a_seen⟩ := v
  have J := i_up I
  obtain ⟨hg, hb, ⟨n, K, A, B, C, w, rfl, rfl, hC, hX, hY⟩, hE⟩ := I
  exact ⟨rfl, J⟩
theorem i_vc_next {k : Nat} {u : SX} {v : SY} (I : i_Rel k u v) (hk : k + 5 ≤ 2560) (v1 : Int32) (v2 : Int32) : wpX_next (fun r u' => wpY_next (fun r' v' => r' = r ∧ i_Rel (k + 5) u' v') v v1 v2) u v1 v2 := by
  obtain ⟨f_gates, f_hasDevice, f_cells, f_inputLevels, f_registerLevels, a_kindOfGate, a_firstOfGate, a_secondOfGate, a_thirdOfGate, a_nextOfRegister, a_shownByOutput, a_placeOfSignal, a_tableOfCell, a_firstWireOfCell, a_secondWireOfCell, a_thirdWireOfCell, a_wireOfRegister, a_wireOfOutput⟩ := u
  obtain ⟨f_size, f_builtSize, f_isBuilt, f_given, f_state, a_gates, a_wires, a_values, a_seen⟩ := v
  have J := i_up I
  obtain ⟨hg, hb, ⟨n, K, A, B, C, w, rfl, rfl, hC, hX, hY⟩, hE⟩ := I
  have hn := hC.1
  unfold wpX_next
  dsimp only
  rcases pk_ix v1 (n := 6) (by decide) with h | h | ⟨j, hj, rfl⟩
  · exact cf_rgX0 (Or.inl h) (br_t rfl (br_t h ⟨rfl, J⟩))
  · exact cf_rgX0 (Or.inr h) (br_t rfl (br_f (cf_l6 h).1 (br_t (cf_l6 h).2 ⟨rfl, J⟩)))
  · have y0 : ¬ nI j < 0 := nI_pos (by omega)
    have y5 : ¬ 5 < nI j := nI_nlt (a := 5) (by omega) (by decide)
    by_cases s2 : cf_sg n v2
    · have s2' := s2
      obtain ⟨s, hs, rfl⟩ := s2
      have ec : (nI j).toNatClampNeg = j := nI_clamp (by omega)
      refine cf_rgX1 hj (br_f cf_10n (cf_isX1 hn s2' (br_f cf_10n ⟨vp_in_nI hj (by decide), nm_e (br_f y0 (br_f y5 (cf_isY1 hn s2' (br_f cf_10n ⟨vp_in_nI (by omega) (by decide), nm_e ⟨rfl, hg, hb, ?_, ?_⟩⟩))))⟩)))
      · rw [ec]
        refine ⟨n, K, A, B, C, fun i => if i = j then s else w i, rfl, rfl, cf_wire hC hs, ⟨hX.1, fun r hr => ?_, fun o ho => ?_⟩, cf_wires hY⟩
        · dsimp only
          by_cases e : r = j
          · rw [if_pos e, e, pk_us]
          · rw [if_neg e, pk_un e]
            exact hX.2.1 r hr
        · dsimp only
          rw [if_neg (by omega)]
          exact hX.2.2 o ho
      · rw [ec]
        exact cf_DeC (fun _ _ => rfl) (cf_wireE (by omega) _ _) hE
    · exact cf_rgX1 hj (br_f cf_10n (cf_isX0 hn s2 (br_t rfl (br_f y0 (br_f y5 (cf_isY0 hn s2 (br_t rfl ⟨rfl, J⟩)))))))
theorem i_vc_show {k : Nat} {u : SX} {v : SY} (I : i_Rel k u v) (hk : k + 5 ≤ 2560) (v1 : Int32) (v2 : Int32) : wpX_show (fun r u' => wpY_show (fun r' v' => r' = r ∧ i_Rel (k + 5) u' v') v v1 v2) u v1 v2 := by
  obtain ⟨f_gates, f_hasDevice, f_cells, f_inputLevels, f_registerLevels, a_kindOfGate, a_firstOfGate, a_secondOfGate, a_thirdOfGate, a_nextOfRegister, a_shownByOutput, a_placeOfSignal, a_tableOfCell, a_firstWireOfCell, a_secondWireOfCell, a_thirdWireOfCell, a_wireOfRegister, a_wireOfOutput⟩ := u
  obtain ⟨f_size, f_builtSize, f_isBuilt, f_given, f_state, a_gates, a_wires, a_values, a_seen⟩ := v
  have J := i_up I
  obtain ⟨hg, hb, ⟨n, K, A, B, C, w, rfl, rfl, hC, hX, hY⟩, hE⟩ := I
  have hn := hC.1
  rcases pk_ix v1 (n := 4) (by decide) with h | h | ⟨j, hj, rfl⟩
  · exact br_t h (br_t h ⟨rfl, J⟩)
  · exact br_f (cf_l4 h).1 (br_t h (br_f (cf_l4 h).1 (br_t (cf_l4 h).2 ⟨rfl, J⟩)))
  · have y0 : ¬ nI j < 0 := nI_pos (by omega)
    have y3 : ¬ 3 < nI j := nI_nlt (a := 3) (by omega) (by decide)
    have y4 : ¬ 4 ≤ nI j := nI_ge (b := 4) hj (by decide)
    by_cases s2 : cf_sg n v2
    · have s2' := s2
      obtain ⟨s, hs, rfl⟩ := s2
      have ec : (nI j).toNatClampNeg = j := nI_clamp (by omega)
      have e6 : (6 + nI j).toNatClampNeg = 6 + j := pk_cl (6 + j) (cf_6 j) (by omega)
      refine br_f y0 (br_f y4 (cf_isX1 hn s2' (br_f cf_10n ⟨vp_in_nI hj (by decide), nm_e (br_f y0 (br_f y3 (cf_isY1 hn s2' (br_f cf_10n ⟨cf_in (cf_6 j) (by omega) (by decide), nm_e ⟨rfl, hg, hb, ?_, ?_⟩⟩))))⟩)))
      · rw [ec, e6]
        refine ⟨n, K, A, B, C, fun i => if i = 6 + j then s else w i, rfl, rfl, cf_wire hC hs, ⟨hX.1, fun r hr => ?_, fun o ho => ?_⟩, cf_wires hY⟩
        · dsimp only
          rw [if_neg (by omega)]
          exact hX.2.1 r hr
        · dsimp only
          by_cases e : o = j
          · rw [if_pos (by omega), e, pk_us]
          · rw [if_neg (by omega), pk_un e]
            exact hX.2.2 o ho
      · rw [e6]
        exact cf_DeC (fun _ _ => rfl) (cf_wireE (by omega) _ _) hE
    · exact br_f y0 (br_f y4 (cf_isX0 hn s2 (br_t rfl (br_f y0 (br_f y3 (cf_isY0 hn s2 (br_t rfl ⟨rfl, J⟩)))))))
theorem i_vc_build {k : Nat} {u : SX} {v : SY} (I : i_Rel k u v) (hk : k + 5 ≤ 2560) (v1 : Int32) : wpX_build (fun r u' => wpY_build (fun r' v' => r' = r ∧ i_Rel (k + 5) u' v') v v1) u v1 := by
  obtain ⟨f_gates, f_hasDevice, f_cells, f_inputLevels, f_registerLevels, a_kindOfGate, a_firstOfGate, a_secondOfGate, a_thirdOfGate, a_nextOfRegister, a_shownByOutput, a_placeOfSignal, a_tableOfCell, a_firstWireOfCell, a_secondWireOfCell, a_thirdWireOfCell, a_wireOfRegister, a_wireOfOutput⟩ := u
  obtain ⟨f_size, f_builtSize, f_isBuilt, f_given, f_state, a_gates, a_wires, a_values, a_seen⟩ := v
  have J := i_up I
  obtain ⟨hg, hb, ⟨n, K, A, B, C, w, rfl, rfl, hC, hX, hY⟩, hE⟩ := I
  by_cases h0 : v1 < 0
  · exact br_t h0 (br_t h0 ⟨rfl, J⟩)
  by_cases h9 : v1 ≤ 1000
  · obtain ⟨c, hc, rfl⟩ := nI_of2 (x := v1) (M := 1000) (n := 1000) (by decide) h0 h9
    refine cf_buX hc hC hX ?_
    intro plc tab w1 w2 w3 wr wo hD
    refine cf_buY hc hC.1 hY ?_
    intro gts wrs hY1 hY2
    exact ⟨rfl, hg, rfl, ⟨n, K, A, B, C, w, rfl, rfl, hC, hX, hY1⟩, Or.inr ⟨rfl, n, K, A, B, C, w, cf_pl c, 0, rfl, rfl, rfl, rfl, by decide, hC, hD, hY2⟩⟩
  · exact br_f h0 (br_f h9 (br_f h0 (br_f h9 ⟨rfl, J⟩)))
theorem i_vc_built {k : Nat} {u : SX} {v : SY} (I : i_Rel k u v) (hk : k + 5 ≤ 2560) : wpX_built (fun r => wpY_built (fun r' => r' = r ∧ i_Rel (k + 5) u v) v) u := by
  obtain ⟨f_gates, f_hasDevice, f_cells, f_inputLevels, f_registerLevels, a_kindOfGate, a_firstOfGate, a_secondOfGate, a_thirdOfGate, a_nextOfRegister, a_shownByOutput, a_placeOfSignal, a_tableOfCell, a_firstWireOfCell, a_secondWireOfCell, a_thirdWireOfCell, a_wireOfRegister, a_wireOfOutput⟩ := u
  obtain ⟨f_size, f_builtSize, f_isBuilt, f_given, f_state, a_gates, a_wires, a_values, a_seen⟩ := v
  have J := i_up I
  obtain ⟨hg, hb, hCi, hE⟩ := I
  have hE' := hE
  rcases hE' with h | ⟨h, -⟩
  · subst h
    subst hb
    exact ⟨by decide, by decide, rfl, J⟩
  · subst h
    subst hb
    exact ⟨by decide, by decide, rfl, J⟩
theorem i_vc_set {k : Nat} {u : SX} {v : SY} (I : i_Rel k u v) (hk : k + 5 ≤ 2560) (v1 : Int32) (v2 : Int32) : wpX_set (fun r u' => wpY_set (fun r' v' => r' = r ∧ i_Rel (k + 5) u' v') v v1 v2) u v1 v2 := by
  obtain ⟨f_gates, f_hasDevice, f_cells, f_inputLevels, f_registerLevels, a_kindOfGate, a_firstOfGate, a_secondOfGate, a_thirdOfGate, a_nextOfRegister, a_shownByOutput, a_placeOfSignal, a_tableOfCell, a_firstWireOfCell, a_secondWireOfCell, a_thirdWireOfCell, a_wireOfRegister, a_wireOfOutput⟩ := u
  obtain ⟨f_size, f_builtSize, f_isBuilt, f_given, f_state, a_gates, a_wires, a_values, a_seen⟩ := v
  have J := i_up I
  obtain ⟨hg, hb, hCi, hE⟩ := I
  have hg' : f_given = f_inputLevels := hg
  rcases pk_ix v1 (n := 6) (by decide) with h | h | ⟨j, hj, rfl⟩
  · exact br_t h (br_t h ⟨rfl, J⟩)
  · exact br_f (cf_l6 h).1 (br_t h (br_f (cf_l6 h).1 (br_t (cf_l6 h).2 ⟨rfl, J⟩)))
  · have y0 : ¬ nI j < 0 := nI_pos (by omega)
    have y5 : ¬ 5 < nI j := nI_nlt (a := 5) (by omega) (by decide)
    have y6 : ¬ 6 ≤ nI j := nI_ge (b := 6) hj (by decide)
    by_cases hv : v2 = 0 ∨ v2 = 1
    · refine br_f y0 (br_f y6 (cf_lvX1 hv (br_f cf_10n (cf_wbX (br_f y0 (br_f y5 (br_f (cf_levOk hv).1 (br_t (cf_levOk hv).2 (nm_e ⟨rfl, ?_, hb, hCi, hE⟩)))))))))
      rw [hg']
    · have v0 : ¬ v2 = 0 := fun z => hv (Or.inl z)
      have w1 : ¬ v2 = 1 := fun z => hv (Or.inr z)
      refine br_f y0 (br_f y6 (cf_lvX0 v0 w1 (br_t rfl (br_f y0 (br_f y5 ?_)))))
      rcases cf_lev v0 w1 with h | ⟨h, h'⟩
      · exact br_t h ⟨rfl, J⟩
      · exact br_f h (br_f h' ⟨rfl, J⟩)
theorem i_vc_inputs {k : Nat} {u : SX} {v : SY} (I : i_Rel k u v) (hk : k + 5 ≤ 2560) : wpX_inputs (fun r => wpY_inputs (fun r' => r' = r ∧ i_Rel (k + 5) u v) v) u := by
  obtain ⟨f_gates, f_hasDevice, f_cells, f_inputLevels, f_registerLevels, a_kindOfGate, a_firstOfGate, a_secondOfGate, a_thirdOfGate, a_nextOfRegister, a_shownByOutput, a_placeOfSignal, a_tableOfCell, a_firstWireOfCell, a_secondWireOfCell, a_thirdWireOfCell, a_wireOfRegister, a_wireOfOutput⟩ := u
  obtain ⟨f_size, f_builtSize, f_isBuilt, f_given, f_state, a_gates, a_wires, a_values, a_seen⟩ := v
  have J := i_up I
  obtain ⟨hg, hb, hCi, hE⟩ := I
  exact ⟨hg, J⟩
theorem i_vc_clock {k : Nat} {u : SX} {v : SY} (I : i_Rel k u v) (hk : k + 5 ≤ 2560) (v1 : Int32) : wpX_clock (fun r u' => wpY_clock (fun r' v' => r' = r ∧ i_Rel (k + 5) u' v') v v1) u v1 := by
  obtain ⟨f_gates, f_hasDevice, f_cells, f_inputLevels, f_registerLevels, a_kindOfGate, a_firstOfGate, a_secondOfGate, a_thirdOfGate, a_nextOfRegister, a_shownByOutput, a_placeOfSignal, a_tableOfCell, a_firstWireOfCell, a_secondWireOfCell, a_thirdWireOfCell, a_wireOfRegister, a_wireOfOutput⟩ := u
  obtain ⟨f_size, f_builtSize, f_isBuilt, f_given, f_state, a_gates, a_wires, a_values, a_seen⟩ := v
  have J := i_up I
  obtain ⟨hg, hb, hCi, hE⟩ := I
  have hg' : f_given = f_inputLevels := hg
  have hb' : f_isBuilt = f_hasDevice := hb
  subst hg'
  subst hb'
  rcases hE with h0 | ⟨h1, m, K, A, B, C, w, P, R, rfl, rfl, rfl, rfl, hR, hC, hD, hY⟩
  · exact br_t h0 (br_t h0 ⟨rfl, J⟩)
  have hd : ¬ f_isBuilt = 0 := by
    rw [show f_isBuilt = 1 from h1]
    decide
  by_cases n0 : v1 < 0
  · exact br_f hd (br_t n0 (br_f hd (br_t n0 ⟨rfl, J⟩)))
  by_cases n9 : v1 ≤ 20
  · obtain ⟨c, hc, rfl⟩ := nI_of2 (x := v1) (M := 20) (n := 20) (by decide) n0 n9
    refine cf_ckX hd hC hD R c hc (cf_ckY hd hC hY R c hc ?_)
    intro val
    exact ⟨rfl, rfl, rfl, hCi, Or.inr ⟨h1, m, K, A, B, C, w, P, _, rfl, rfl, rfl, rfl, cf_it64 (cf_st64 _ _ _ _ _ _) hR c, hC, hD, hY⟩⟩
  · exact br_f hd (br_f n0 (br_f n9 (br_f hd (br_f n0 (br_f n9 ⟨rfl, J⟩)))))
theorem i_vc_registers {k : Nat} {u : SX} {v : SY} (I : i_Rel k u v) (hk : k + 5 ≤ 2560) : wpX_registers (fun r => wpY_registers (fun r' => r' = r ∧ i_Rel (k + 5) u v) v) u := by
  obtain ⟨f_gates, f_hasDevice, f_cells, f_inputLevels, f_registerLevels, a_kindOfGate, a_firstOfGate, a_secondOfGate, a_thirdOfGate, a_nextOfRegister, a_shownByOutput, a_placeOfSignal, a_tableOfCell, a_firstWireOfCell, a_secondWireOfCell, a_thirdWireOfCell, a_wireOfRegister, a_wireOfOutput⟩ := u
  obtain ⟨f_size, f_builtSize, f_isBuilt, f_given, f_state, a_gates, a_wires, a_values, a_seen⟩ := v
  have J := i_up I
  obtain ⟨hg, hb, hCi, hE⟩ := I
  have hg' : f_given = f_inputLevels := hg
  have hb' : f_isBuilt = f_hasDevice := hb
  subst hg'
  subst hb'
  rcases hE with h0 | ⟨h1, m, K, A, B, C, w, P, R, rfl, rfl, rfl, rfl, hR, hC, hD, hY⟩
  · exact br_t h0 (br_t h0 ⟨rfl, J⟩)
  have hd : ¬ f_isBuilt = 0 := by
    rw [show f_isBuilt = 1 from h1]
    decide
  exact br_f hd (br_f hd ⟨rfl, J⟩)
theorem i_vc_load {k : Nat} {u : SX} {v : SY} (I : i_Rel k u v) (hk : k + 5 ≤ 2560) (v1 : Int32) (v2 : Int32) : wpX_load (fun r u' => wpY_load (fun r' v' => r' = r ∧ i_Rel (k + 5) u' v') v v1 v2) u v1 v2 := by
  obtain ⟨f_gates, f_hasDevice, f_cells, f_inputLevels, f_registerLevels, a_kindOfGate, a_firstOfGate, a_secondOfGate, a_thirdOfGate, a_nextOfRegister, a_shownByOutput, a_placeOfSignal, a_tableOfCell, a_firstWireOfCell, a_secondWireOfCell, a_thirdWireOfCell, a_wireOfRegister, a_wireOfOutput⟩ := u
  obtain ⟨f_size, f_builtSize, f_isBuilt, f_given, f_state, a_gates, a_wires, a_values, a_seen⟩ := v
  have J := i_up I
  obtain ⟨hg, hb, hCi, hE⟩ := I
  have hg' : f_given = f_inputLevels := hg
  have hb' : f_isBuilt = f_hasDevice := hb
  subst hg'
  subst hb'
  rcases hE with h0 | ⟨h1, m, K, A, B, C, w, P, R, rfl, rfl, rfl, rfl, hR, hC, hD, hY⟩
  · exact br_t h0 (br_t h0 ⟨rfl, J⟩)
  have hd : ¬ f_isBuilt = 0 := by
    rw [show f_isBuilt = 1 from h1]
    decide
  rcases pk_ix v1 (n := 6) (by decide) with h | h | ⟨j, hj, rfl⟩
  · exact br_f hd (cf_rgX0 (Or.inl h) (br_t rfl (br_f hd (br_t h ⟨rfl, J⟩))))
  · exact br_f hd (cf_rgX0 (Or.inr h) (br_t rfl (br_f hd (br_f (cf_l6 h).1 (br_t (cf_l6 h).2 ⟨rfl, J⟩)))))
  · have y0 : ¬ nI j < 0 := nI_pos (by omega)
    have y5 : ¬ 5 < nI j := nI_nlt (a := 5) (by omega) (by decide)
    by_cases hv : v2 = 0 ∨ v2 = 1
    · obtain ⟨b, hb2, rfl⟩ : ∃ b, b < 2 ∧ v2 = nI b := by
        rcases hv with h | h
        · exact ⟨0, by decide, h⟩
        · exact ⟨1, by decide, h⟩
      refine br_f hd (cf_rgX1 hj (br_f cf_10n (cf_lvX1 hv (br_f cf_10n (cf_wbX (br_f hd (br_f y0 (br_f y5 (br_f (cf_levOk hv).1 (br_t (cf_levOk hv).2 (nm_e ⟨rfl, rfl, rfl, hCi, Or.inr ⟨h1, m, K, A, B, C, w, P, _, rfl, rfl, cf_ofB _, cf_ofB _, cf_wb64 R hR j hj b hb2, hC, hD, hY⟩⟩)))))))))))
    · have v0 : ¬ v2 = 0 := fun z => hv (Or.inl z)
      have w1 : ¬ v2 = 1 := fun z => hv (Or.inr z)
      refine br_f hd (cf_rgX1 hj (br_f cf_10n (cf_lvX0 v0 w1 (br_t rfl (br_f hd (br_f y0 (br_f y5 ?_)))))))
      rcases cf_lev v0 w1 with h | ⟨h, h'⟩
      · exact br_t h ⟨rfl, J⟩
      · exact br_f h (br_f h' ⟨rfl, J⟩)
theorem i_vc_outputs {k : Nat} {u : SX} {v : SY} (I : i_Rel k u v) (hk : k + 5 ≤ 2560) : wpX_outputs (fun r => wpY_outputs (fun r' v' => r' = r ∧ i_Rel (k + 5) u v') v) u := by
  obtain ⟨f_gates, f_hasDevice, f_cells, f_inputLevels, f_registerLevels, a_kindOfGate, a_firstOfGate, a_secondOfGate, a_thirdOfGate, a_nextOfRegister, a_shownByOutput, a_placeOfSignal, a_tableOfCell, a_firstWireOfCell, a_secondWireOfCell, a_thirdWireOfCell, a_wireOfRegister, a_wireOfOutput⟩ := u
  obtain ⟨f_size, f_builtSize, f_isBuilt, f_given, f_state, a_gates, a_wires, a_values, a_seen⟩ := v
  have J := i_up I
  obtain ⟨hg, hb, hCi, hE⟩ := I
  have hg' : f_given = f_inputLevels := hg
  have hb' : f_isBuilt = f_hasDevice := hb
  subst hg'
  subst hb'
  rcases hE with h0 | ⟨h1, m, K, A, B, C, w, P, R, rfl, rfl, rfl, rfl, hR, hC, hD, hY⟩
  · exact br_t h0 (br_t h0 ⟨rfl, J⟩)
  have hd : ¬ f_isBuilt = 0 := by
    rw [show f_isBuilt = 1 from h1]
    decide
  refine br_f hd (cf_shX hC hD (cf_ouY hd hC hY ?_))
  intro val
  exact ⟨rfl, rfl, rfl, hCi, Or.inr ⟨h1, m, K, A, B, C, w, P, R, rfl, rfl, rfl, rfl, hR, hC, hD, hY⟩⟩
theorem i_vc_feed {k : Nat} {u : SX} {v : SY} (I : i_Rel k u v) (hk : k + 5 ≤ 2560) (v1 : Int32) : wpX_feed (fun r u' => wpY_feed (fun r' v' => r' = r ∧ i_Rel (k + 5) u' v') v v1) u v1 := by
  obtain ⟨f_gates, f_hasDevice, f_cells, f_inputLevels, f_registerLevels, a_kindOfGate, a_firstOfGate, a_secondOfGate, a_thirdOfGate, a_nextOfRegister, a_shownByOutput, a_placeOfSignal, a_tableOfCell, a_firstWireOfCell, a_secondWireOfCell, a_thirdWireOfCell, a_wireOfRegister, a_wireOfOutput⟩ := u
  obtain ⟨f_size, f_builtSize, f_isBuilt, f_given, f_state, a_gates, a_wires, a_values, a_seen⟩ := v
  have J := i_up I
  obtain ⟨hg, hb, hCi, hE⟩ := I
  have hg' : f_given = f_inputLevels := hg
  have hb' : f_isBuilt = f_hasDevice := hb
  subst hg'
  subst hb'
  rcases hE with h0 | ⟨h1, m, K, A, B, C, w, P, R, rfl, rfl, rfl, rfl, hR, hC, hD, hY⟩
  · exact br_t h0 (br_t h0 ⟨rfl, J⟩)
  have hd : ¬ f_isBuilt = 0 := by
    rw [show f_isBuilt = 1 from h1]
    decide
  by_cases n0 : v1 < 0
  · exact br_f hd (br_t n0 (br_f hd (br_t n0 ⟨rfl, J⟩)))
  by_cases n9 : v1 ≤ 63
  · refine br_f hd (br_f n0 (br_t n9 (cf_shX hC hD (cf_afX hC hD R (br_f hd (br_f n0 (br_t n9 (cf_ouY hd hC hY ?_))))))))
    intro val
    dsimp only
    refine cf_foY hC hY R ?_
    intro val'
    exact ⟨rfl, rfl, rfl, hCi, Or.inr ⟨h1, m, K, A, B, C, w, P, _, rfl, rfl, rfl, rfl, cf_st64 _ _ _ _ _ _ _, hC, hD, hY⟩⟩
  · exact br_f hd (br_f n0 (br_f n9 (br_f hd (br_f n0 (br_f n9 ⟨rfl, J⟩)))))
theorem i_vc_tail {k : Nat} {u : SX} {v : SY} (I : i_Rel k u v) (hk : k + 5 ≤ 2560) : wpX_tail (fun r => wpY_tail (fun r' v' => r' = r ∧ i_Rel (k + 5) u v') v) u := by
  obtain ⟨f_gates, f_hasDevice, f_cells, f_inputLevels, f_registerLevels, a_kindOfGate, a_firstOfGate, a_secondOfGate, a_thirdOfGate, a_nextOfRegister, a_shownByOutput, a_placeOfSignal, a_tableOfCell, a_firstWireOfCell, a_secondWireOfCell, a_thirdWireOfCell, a_wireOfRegister, a_wireOfOutput⟩ := u
  obtain ⟨f_size, f_builtSize, f_isBuilt, f_given, f_state, a_gates, a_wires, a_values, a_seen⟩ := v
  have J := i_up I
  obtain ⟨hg, hb, hCi, hE⟩ := I
  have hg' : f_given = f_inputLevels := hg
  have hb' : f_isBuilt = f_hasDevice := hb
  subst hg'
  subst hb'
  rcases hE with h0 | ⟨h1, m, K, A, B, C, w, P, R, rfl, rfl, rfl, rfl, hR, hC, hD, hY⟩
  · exact br_t h0 (br_t h0 ⟨rfl, J⟩)
  have hd : ¬ f_isBuilt = 0 := by
    rw [show f_isBuilt = 1 from h1]
    decide
  obtain ⟨t, e, hl⟩ := cf_lo (cf_st64 K A B C w f_given) hR
  refine cf_taX hd hC hD hR hl (cf_taY hd hC hY hR hl ?_)
  intro val seen
  exact ⟨rfl, rfl, rfl, hCi, Or.inr ⟨h1, m, K, A, B, C, w, P, R, rfl, rfl, rfl, rfl, hR, hC, hD, hY⟩⟩
theorem i_vc_period {k : Nat} {u : SX} {v : SY} (I : i_Rel k u v) (hk : k + 5 ≤ 2560) : wpX_period (fun r => wpY_period (fun r' v' => r' = r ∧ i_Rel (k + 5) u v') v) u := by
  obtain ⟨f_gates, f_hasDevice, f_cells, f_inputLevels, f_registerLevels, a_kindOfGate, a_firstOfGate, a_secondOfGate, a_thirdOfGate, a_nextOfRegister, a_shownByOutput, a_placeOfSignal, a_tableOfCell, a_firstWireOfCell, a_secondWireOfCell, a_thirdWireOfCell, a_wireOfRegister, a_wireOfOutput⟩ := u
  obtain ⟨f_size, f_builtSize, f_isBuilt, f_given, f_state, a_gates, a_wires, a_values, a_seen⟩ := v
  have J := i_up I
  obtain ⟨hg, hb, hCi, hE⟩ := I
  have hg' : f_given = f_inputLevels := hg
  have hb' : f_isBuilt = f_hasDevice := hb
  subst hg'
  subst hb'
  rcases hE with h0 | ⟨h1, m, K, A, B, C, w, P, R, rfl, rfl, rfl, rfl, hR, hC, hD, hY⟩
  · exact br_t h0 (br_t h0 ⟨rfl, J⟩)
  have hd : ¬ f_isBuilt = 0 := by
    rw [show f_isBuilt = 1 from h1]
    decide
  obtain ⟨t, e, hl⟩ := cf_lo (cf_st64 K A B C w f_given) hR
  refine cf_peX hd hC hD hR hl (cf_peY hd hC hY hR hl ?_)
  intro val seen
  exact ⟨rfl, rfl, rfl, hCi, Or.inr ⟨h1, m, K, A, B, C, w, P, R, rfl, rfl, rfl, rfl, hR, hC, hD, hY⟩⟩
end
