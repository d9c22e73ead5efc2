section
/-! rows of the kit to paste: stores, numbers, branches, bits -/
theorem pk_us {f : Nat → Int32} {k : Nat} {x : Int32} : upd f k x k = x := if_pos rfl
theorem pk_un {f : Nat → Int32} {k j : Nat} {x : Int32} (h : j ≠ k) : upd f k x j = f j := if_neg h
theorem pk_sub {a b : Nat} (h : b ≤ a) : nI a - nI b = nI (a - b) := by
  obtain ⟨c, rfl⟩ : ∃ c, a = c + b := ⟨a - b, by omega⟩
  rw [← nI_add, Int32.add_sub_cancel, Nat.add_sub_cancel]
theorem pk_m1 (n : Nat) : nI (n + 1) + (-1) = nI n := by
  rw [← nI_1, Int32.add_assoc, show (1 : Int32) + (-1) = 0 from rfl, Int32.add_zero]
theorem pk_mul (a b : Nat) : nI a * nI b = nI (a * b) := (Int32.ofNat_mul a b).symm
theorem pk_div {a d : Nat} (ha : a < 2 ^ 31) (h0 : 0 < d) (hd : d < 2 ^ 31) : nI a / nI d = nI (a / d) := by
  apply Int32.toInt_inj.mp
  rw [lg_idiv_nonneg (by rw [nI_toInt ha]; omega) (by rw [nI_toInt hd]; omega), nI_toInt ha, nI_toInt hd, nI_toInt (Nat.lt_of_le_of_lt (Nat.div_le_self a d) ha)]
  first | rfl | exact (Int.natCast_ediv _ _).symm
theorem pk_rem {a d : Nat} (ha : a < 2 ^ 31) (h0 : 0 < d) (hd : d < 2 ^ 31) : nI a - nI a / nI d * nI d = nI (a % d) := by
  rw [pk_div ha h0 hd, pk_mul, pk_sub (Nat.div_mul_le_self a d)]
  exact congrArg nI (by have := Nat.div_add_mod' a d; omega)
theorem pk_ix (x : Int32) {n : Nat} (hn : n < 2 ^ 31) : x < 0 ∨ nI n ≤ x ∨ ∃ j : Nat, j < n ∧ x = nI j := by
  by_cases h : x < 0
  · exact Or.inl h
  · obtain ⟨j, hj, rfl⟩ := nI_of h
    by_cases h2 : j < n
    · exact Or.inr (Or.inr ⟨j, h2, rfl⟩)
    · exact Or.inr (Or.inl (nI_le (by omega) hj))
theorem pk_le {x y : Int32} {A B : Prop} (a b : Nat) (f : a ≤ b → A) (g : b < a → B) (hx : x = nI a := by rfl) (hy : y = nI b := by rfl) (ha : a < 2 ^ 31 := by omega) (hb : b < 2 ^ 31 := by omega) : (x ≤ y → A) ∧ (¬ x ≤ y → B) := by
  subst hx hy
  rw [nI_leI ha hb]
  exact ⟨f, fun z => g (by omega)⟩
theorem pk_lt {x y : Int32} {A B : Prop} (a b : Nat) (f : a < b → A) (g : b ≤ a → B) (hx : x = nI a := by rfl) (hy : y = nI b := by rfl) (ha : a < 2 ^ 31 := by omega) (hb : b < 2 ^ 31 := by omega) : (x < y → A) ∧ (¬ x < y → B) := by
  subst hx hy
  rw [nI_ltI ha hb]
  exact ⟨f, fun z => g (by omega)⟩
theorem pk_eq {x y : Int32} {A B : Prop} (a b : Nat) (f : a = b → A) (g : a ≠ b → B) (hx : x = nI a := by rfl) (hy : y = nI b := by rfl) (ha : a < 2 ^ 31 := by omega) (hb : b < 2 ^ 31 := by omega) : (x = y → A) ∧ (¬ x = y → B) := by
  subst hx hy
  rw [nI_eq ha hb]
  exact ⟨f, g⟩
theorem pk_in {x : Int32} (n N : Nat) (h : n < N) (hx : x = nI n := by rfl) (hN : N < 2 ^ 31 := by omega) : vp_in x N := by
  subst hx
  exact vp_in_nI h hN
theorem pk_cl {x : Int32} (n : Nat) (hx : x = nI n := by rfl) (h : n < 2 ^ 31 := by omega) : x.toNatClampNeg = n := by
  subst hx
  exact nI_clamp h
theorem pk_tn {n : Nat} (h : n < 2 ^ 32) : (nI n).toBitVec.toNat = n := Nat.mod_eq_of_lt h
theorem pk_and (x : Int32) {m : Int32} (k : Nat) (hm : m.toBitVec.toNat = 2 ^ k - 1) : x &&& m = nI (x.toBitVec.toNat % 2 ^ k) := by
  apply Int32.toBitVec_inj.mp
  apply BitVec.eq_of_toNat_eq
  rw [Int32.toBitVec_and, BitVec.toNat_and, hm, Nat.and_two_pow_sub_one_eq_mod]
  show _ = (BitVec.ofNat 32 _).toNat
  rw [BitVec.toNat_ofNat]
  exact (Nat.mod_eq_of_lt (Nat.lt_of_le_of_lt (Nat.mod_le _ _) x.toBitVec.isLt)).symm
theorem pk_andN {n : Nat} (h : n < 2 ^ 32) {m : Int32} (k : Nat) (hm : m.toBitVec.toNat = 2 ^ k - 1) : nI n &&& m = nI (n % 2 ^ k) := by
  rw [pk_and _ k hm, pk_tn h]
theorem pk_andE (x : Int32) {m : Int32} (k : Nat) (hm : m.toBitVec.toNat = 2 ^ k - 1) : ∃ j : Nat, j < 2 ^ k ∧ x &&& m = nI j := ⟨_, Nat.mod_lt _ (Nat.two_pow_pos k), pk_and x k hm⟩
theorem pk_andIn (x : Int32) {m : Int32} (k : Nat) (hm : m.toBitVec.toNat = 2 ^ k - 1) (hk : k ≤ 30) : vp_in (x &&& m) (2 ^ k) := by
  obtain ⟨j, hj, e⟩ := pk_andE x k hm
  rw [e]
  exact vp_in_nI hj (Nat.lt_of_le_of_lt (Nat.pow_le_pow_right (by decide) hk) (by decide))
theorem pk_loop {σ : Type} (W : Nat → Nat → σ → Prop) (I : Nat → σ → Prop) (e i0 : Nat) (s : σ) (hi : i0 ≤ e) (h0 : I i0 s) (hx : ∀ n s, I e s → W (n + 1) e s)
    (hs : ∀ n i s, i < e → I i s → (∀ s', I (i + 1) s' → W n (i + 1) s') → W (n + 1) i s) : ∃ n, W n i0 s :=
  ⟨e + 1, loop_i W I e hx hs (e + 1) i0 s hi (by omega) h0⟩
theorem pk_least (P : Nat → Prop) (h : ∃ k, P k) : ∃ k, P k ∧ ∀ j, j < k → ¬ P j := by
  obtain ⟨k, hk⟩ := h
  induction k using Nat.strongRecOn with
  | ind k ih =>
    by_cases e : ∃ j, j < k ∧ P j
    · obtain ⟨j, hj, pj⟩ := e
      exact ih j hj pj
    · exact ⟨k, hk, fun j hj pj => e ⟨j, hj, pj⟩⟩
theorem ek_if {c d A B : Prop} (e : c ↔ d) (f : d → A) (g : ¬ d → B) : (c → A) ∧ (¬ c → B) :=
  ⟨fun z => f (e.mp z), fun z => g (fun y => z (e.mpr y))⟩
theorem ek_v {α : Sort _} {P : α → Prop} {a b : α} (e : a = b) (h : P b) : P a := e ▸ h
def bt (x : Int32) (i : Nat) : Bool := x.toBitVec.getLsbD i
theorem b_ext {x y : Int32} (h : ∀ i, i < 32 → bt x i = bt y i) : x = y := Int32.toBitVec_inj.mp (BitVec.eq_of_getLsbD_eq (fun i hi => h i hi))
theorem b_or (x y : Int32) (i : Nat) : bt (x ||| y) i = (bt x i || bt y i) := by unfold bt; rw [Int32.toBitVec_or, BitVec.getLsbD_or]
theorem b_and (x y : Int32) (i : Nat) : bt (x &&& y) i = (bt x i && bt y i) := by unfold bt; rw [Int32.toBitVec_and, BitVec.getLsbD_and]
theorem b_xor (x y : Int32) (i : Nat) : bt (x ^^^ y) i = (bt x i ^^ bt y i) := by unfold bt; rw [Int32.toBitVec_xor, BitVec.getLsbD_xor]
theorem b_big {x : Int32} {i : Nat} (h : 32 ≤ i) : bt x i = false := BitVec.getLsbD_of_ge _ _ h
theorem b_m1 : ∀ i, i < 32 → bt (-1) i = true := by decide +kernel
theorem b_0 (i : Nat) : bt 0 i = false := BitVec.getLsbD_zero
theorem s_l : ∀ n, n < 32 → ((nI n &&& 31).toBitVec.smod 32).toNat = n := by decide +kernel
theorem s_u : ∀ n, n < 32 → (((nI n).toUInt32 &&& Int32.toUInt32 31).toBitVec % 32).toNat = n := by decide +kernel
theorem b_shl (n : Nat) (hn : n < 32) (x : Int32) {i : Nat} (hi : i < 32) : bt (x <<< (nI n &&& 31)) i = (decide (n ≤ i) && bt x (i - n)) := by
  unfold bt
  rw [Int32.toBitVec_shiftLeft]
  show (x.toBitVec <<< ((nI n &&& 31).toBitVec.smod 32).toNat).getLsbD i = _
  rw [s_l n hn, BitVec.getLsbD_shiftLeft]
  rcases Nat.lt_or_ge i n with h | h
  · simp [h, Nat.not_le.mpr h]
  · simp [hi, h, Nat.not_lt.mpr h]
theorem b_ushr (n : Nat) (hn : n < 32) (x : Int32) (i : Nat) : bt ((x.toUInt32 >>> ((nI n).toUInt32 &&& Int32.toUInt32 31)).toInt32) i = bt x (n + i) := by
  show (x.toUInt32 >>> ((nI n).toUInt32 &&& Int32.toUInt32 31)).toBitVec.getLsbD i = x.toUInt32.toBitVec.getLsbD (n + i)
  rw [UInt32.toBitVec_shiftRight]
  show (x.toUInt32.toBitVec >>> (((nI n).toUInt32 &&& Int32.toUInt32 31).toBitVec % 32).toNat).getLsbD i = _
  rw [s_u n hn, BitVec.getLsbD_ushiftRight]
theorem b_sshr (n : Nat) (hn : n < 32) (x : Int32) {i : Nat} (hi : i < 32) : bt (x >>> (nI n &&& 31)) i = if n + i < 32 then bt x (n + i) else bt x 31 := by
  unfold bt
  rw [Int32.toBitVec_shiftRight]
  show (x.toBitVec.sshiftRight ((nI n &&& 31).toBitVec.smod 32).toNat).getLsbD i = _
  rw [s_l n hn, BitVec.getLsbD_sshiftRight, BitVec.msb_eq_getLsbD_last]
  simp [hi]
/-! bits as Booleans -/
def cf_bi (b : Bool) : Int32 := cond b 1 0
theorem cf_b1 : ∀ i, i < 32 → bt 1 i = decide (i = 0) := by decide +kernel
theorem cf_bb (b : Bool) {i : Nat} (hi : i < 32) : bt (cf_bi b) i = (b && decide (i = 0)) := by
  cases b
  · exact b_0 i
  · show bt 1 i = _
    rw [cf_b1 i hi, Bool.true_and]
theorem cf_bit (x : Int32) {n : Nat} (hn : n < 32) : ((x.toUInt32 >>> ((nI n).toUInt32 &&& Int32.toUInt32 31)).toInt32 &&& 1) = cf_bi (bt x n) := by
  apply b_ext
  intro i hi
  rw [b_and, b_ushr n hn, cf_bb _ hi, cf_b1 i hi]
  by_cases h : i = 0
  · subst h
    rw [Nat.add_zero]
  · rw [decide_eq_false h, Bool.and_false, Bool.and_false]
theorem cf_sit (x : Int32) {n : Nat} (hn : n < 32) : ((x >>> (nI n &&& 31)) &&& 1) = cf_bi (bt x n) := by
  apply b_ext
  intro i hi
  rw [b_and, b_sshr n hn x hi, cf_bb _ hi, cf_b1 i hi]
  by_cases h : i = 0
  · subst h
    rw [Nat.add_zero, if_pos hn]
  · rw [decide_eq_false h, Bool.and_false, Bool.and_false]
theorem cf_bitX {post : Int32 → Prop} {x y : Int32} (n : Nat) (hn : n < 32) (hy : y = nI n) (h : post (cf_bi (bt x n))) : wpX_bit post x y := by
  subst hy
  unfold wpX_bit
  rw [cf_bit x hn]
  exact h
/-! the kinds -/
def cf_mk (K : Nat) (a b c : Bool) : Bool := match K with
  | 0 => a && b
  | 1 => a || b
  | 2 => a ^^ b
  | 3 => !(a && b)
  | 4 => !(a || b)
  | 5 => !(a ^^ b)
  | 6 => !a || b
  | 7 => cond a b c
  | 8 => (a && b) || ((a && c) || (b && c))
  | _ => (a ^^ b) ^^ c
theorem cf_mk7 {K : Nat} (h : K < 7) (a b c d : Bool) : cf_mk K a b c = cf_mk K a b d := by
  match K, h with
  | 0, _ => rfl
  | 1, _ => rfl
  | 2, _ => rfl
  | 3, _ => rfl
  | 4, _ => rfl
  | 5, _ => rfl
  | 6, _ => rfl
theorem cf_e0 : ∀ a b c : Bool, cf_bi a &&& cf_bi b = cf_bi (cf_mk 0 a b c) := by decide
theorem cf_e1 : ∀ a b c : Bool, cf_bi a ||| cf_bi b = cf_bi (cf_mk 1 a b c) := by decide
theorem cf_e2 : ∀ a b c : Bool, cf_bi a ^^^ cf_bi b = cf_bi (cf_mk 2 a b c) := by decide
theorem cf_e3 : ∀ a b c : Bool, 1 - (cf_bi a &&& cf_bi b) = cf_bi (cf_mk 3 a b c) := by decide
theorem cf_e4 : ∀ a b c : Bool, 1 - (cf_bi a ||| cf_bi b) = cf_bi (cf_mk 4 a b c) := by decide
theorem cf_e5 : ∀ a b c : Bool, 1 - (cf_bi a ^^^ cf_bi b) = cf_bi (cf_mk 5 a b c) := by decide
theorem cf_e6 : ∀ a b c : Bool, (1 - cf_bi a) ||| cf_bi b = cf_bi (cf_mk 6 a b c) := by decide
theorem cf_e9 : ∀ a b c : Bool, (cf_bi a ^^^ cf_bi b) ^^^ cf_bi c = cf_bi (cf_mk 9 a b c) := by decide
theorem cf_y0 : ∀ a b c : Bool, cf_bi a * cf_bi b = cf_bi (cf_mk 0 a b c) := by decide
theorem cf_y3 : ∀ a b c : Bool, 1 - (cf_bi a * cf_bi b) = cf_bi (cf_mk 3 a b c) := by decide
theorem cf_y8 : ∀ a b c : Bool, ((cf_bi a + cf_bi b) + cf_bi c) / 2 = cf_bi (cf_mk 8 a b c) := by decide
theorem cf_y9 : ∀ a b c : Bool, ((cf_bi a + cf_bi b) + cf_bi c) - ((cf_bi a + cf_bi b) + cf_bi c) / 2 * 2 = cf_bi (cf_mk 9 a b c) := by decide
end
section
/-! one gate's level on both sides -/
theorem cf_kX {post : Int32 → Prop} {K : Nat} (hK : K < 10) (a b c : Bool) (h : post (cf_bi (cf_mk K a b c))) : wpX_levelOfKind post (nI K) (cf_bi a) (cf_bi b) (cf_bi c) := by
  match K, hK, h with
  | 0, _, h => exact br_f (by decide) (br_f (by decide) (br_t (by decide) (ek_v (cf_e0 a b c) h)))
  | 1, _, h => exact br_f (by decide) (br_f (by decide) (br_f (by decide) (br_t (by decide) (ek_v (cf_e1 a b c) h))))
  | 2, _, h => exact br_f (by decide) (br_f (by decide) (br_f (by decide) (br_f (by decide) (br_t (by decide) (ek_v (cf_e2 a b c) h)))))
  | 3, _, h => exact br_f (by decide) (br_f (by decide) (br_f (by decide) (br_f (by decide) (br_f (by decide) (br_t (by decide) (ek_v (cf_e3 a b c) h))))))
  | 4, _, h => exact br_f (by decide) (br_f (by decide) (br_f (by decide) (br_f (by decide) (br_f (by decide) (br_f (by decide) (br_t (by decide) (ek_v (cf_e4 a b c) h)))))))
  | 5, _, h => exact br_f (by decide) (br_f (by decide) (br_f (by decide) (br_f (by decide) (br_f (by decide) (br_f (by decide) (br_f (by decide) (br_t (by decide) (ek_v (cf_e5 a b c) h))))))))
  | 6, _, h => exact br_f (by decide) (br_f (by decide) (br_f (by decide) (br_f (by decide) (br_f (by decide) (br_f (by decide) (br_f (by decide) (br_f (by decide) (br_t (by decide) (ek_v (cf_e6 a b c) h)))))))))
  | 7, _, h =>
    cases a
    · exact br_f (by decide) (br_f (by decide) (br_f (by decide) (br_f (by decide) (br_f (by decide) (br_f (by decide) (br_f (by decide) (br_f (by decide) (br_f (by decide) (br_t (by decide) (br_f (by decide) h))))))))))
    · exact br_f (by decide) (br_f (by decide) (br_f (by decide) (br_f (by decide) (br_f (by decide) (br_f (by decide) (br_f (by decide) (br_f (by decide) (br_f (by decide) (br_t (by decide) (br_t (by decide) h))))))))))
  | 8, _, h =>
    cases a <;> cases b <;> cases c
    · exact br_f (by decide) (br_f (by decide) (br_f (by decide) (br_f (by decide) (br_f (by decide) (br_f (by decide) (br_f (by decide) (br_f (by decide) (br_f (by decide) (br_f (by decide) (br_t (by decide) (br_t (by decide) h)))))))))))
    · exact br_f (by decide) (br_f (by decide) (br_f (by decide) (br_f (by decide) (br_f (by decide) (br_f (by decide) (br_f (by decide) (br_f (by decide) (br_f (by decide) (br_f (by decide) (br_t (by decide) (br_t (by decide) h)))))))))))
    · exact br_f (by decide) (br_f (by decide) (br_f (by decide) (br_f (by decide) (br_f (by decide) (br_f (by decide) (br_f (by decide) (br_f (by decide) (br_f (by decide) (br_f (by decide) (br_t (by decide) (br_t (by decide) h)))))))))))
    · exact br_f (by decide) (br_f (by decide) (br_f (by decide) (br_f (by decide) (br_f (by decide) (br_f (by decide) (br_f (by decide) (br_f (by decide) (br_f (by decide) (br_f (by decide) (br_t (by decide) (br_f (by decide) h)))))))))))
    · exact br_f (by decide) (br_f (by decide) (br_f (by decide) (br_f (by decide) (br_f (by decide) (br_f (by decide) (br_f (by decide) (br_f (by decide) (br_f (by decide) (br_f (by decide) (br_t (by decide) (br_t (by decide) h)))))))))))
    · exact br_f (by decide) (br_f (by decide) (br_f (by decide) (br_f (by decide) (br_f (by decide) (br_f (by decide) (br_f (by decide) (br_f (by decide) (br_f (by decide) (br_f (by decide) (br_t (by decide) (br_f (by decide) h)))))))))))
    · exact br_f (by decide) (br_f (by decide) (br_f (by decide) (br_f (by decide) (br_f (by decide) (br_f (by decide) (br_f (by decide) (br_f (by decide) (br_f (by decide) (br_f (by decide) (br_t (by decide) (br_f (by decide) h)))))))))))
    · exact br_f (by decide) (br_f (by decide) (br_f (by decide) (br_f (by decide) (br_f (by decide) (br_f (by decide) (br_f (by decide) (br_f (by decide) (br_f (by decide) (br_f (by decide) (br_t (by decide) (br_f (by decide) h)))))))))))
  | 9, _, h => exact br_f (by decide) (br_t (by decide) (ek_v (cf_e9 a b c) h))
theorem cf_kY {post : Int32 → Prop} {f_size : Int32} {f_builtSize : Int32} {f_isBuilt : Int32} {f_given : Int32} {f_state : Int32} {a_gates : Nat → Int32} {a_wires : Nat → Int32} {a_values : Nat → Int32} {a_seen : Nat → Int32} {K : Nat} (hK : K < 10) (a b c : Bool) (h : post (cf_bi (cf_mk K a b c))) : wpY_made post (f_size, f_builtSize, f_isBuilt, f_given, f_state, a_gates, a_wires, a_values, a_seen) (nI K) (cf_bi a) (cf_bi b) (cf_bi c) := by
  match K, hK, h with
  | 0, _, h => exact nm_e (br_t (by decide) (ek_v (cf_y0 a b c) h))
  | 1, _, h =>
    cases a <;> cases b
    · exact nm_e (br_f (by decide) (br_t (by decide) (br_t (by decide) h)))
    · exact nm_e (br_f (by decide) (br_t (by decide) (br_f (by decide) h)))
    · exact nm_e (br_f (by decide) (br_t (by decide) (br_f (by decide) h)))
    · exact nm_e (br_f (by decide) (br_t (by decide) (br_f (by decide) h)))
  | 2, _, h => exact nm_e (br_f (by decide) (br_f (by decide) (br_t (by decide) (ek_v (cf_e2 a b c) h))))
  | 3, _, h => exact nm_e (br_f (by decide) (br_f (by decide) (br_f (by decide) (br_t (by decide) (ek_v (cf_y3 a b c) h)))))
  | 4, _, h =>
    cases a <;> cases b
    · exact nm_e (br_f (by decide) (br_f (by decide) (br_f (by decide) (br_f (by decide) (br_t (by decide) (br_t (by decide) h))))))
    · exact nm_e (br_f (by decide) (br_f (by decide) (br_f (by decide) (br_f (by decide) (br_t (by decide) (br_f (by decide) h))))))
    · exact nm_e (br_f (by decide) (br_f (by decide) (br_f (by decide) (br_f (by decide) (br_t (by decide) (br_f (by decide) h))))))
    · exact nm_e (br_f (by decide) (br_f (by decide) (br_f (by decide) (br_f (by decide) (br_t (by decide) (br_f (by decide) h))))))
  | 5, _, h => exact nm_e (br_f (by decide) (br_f (by decide) (br_f (by decide) (br_f (by decide) (br_f (by decide) (br_t (by decide) (ek_v (cf_e5 a b c) h)))))))
  | 6, _, h =>
    cases a <;> cases b
    · exact nm_e (br_f (by decide) (br_f (by decide) (br_f (by decide) (br_f (by decide) (br_f (by decide) (br_f (by decide) (br_t (by decide) (br_t (by decide) h))))))))
    · exact nm_e (br_f (by decide) (br_f (by decide) (br_f (by decide) (br_f (by decide) (br_f (by decide) (br_f (by decide) (br_t (by decide) (br_t (by decide) h))))))))
    · exact nm_e (br_f (by decide) (br_f (by decide) (br_f (by decide) (br_f (by decide) (br_f (by decide) (br_f (by decide) (br_t (by decide) (br_f (by decide) h))))))))
    · exact nm_e (br_f (by decide) (br_f (by decide) (br_f (by decide) (br_f (by decide) (br_f (by decide) (br_f (by decide) (br_t (by decide) (br_t (by decide) h))))))))
  | 7, _, h =>
    cases a
    · exact nm_e (br_f (by decide) (br_f (by decide) (br_f (by decide) (br_f (by decide) (br_f (by decide) (br_f (by decide) (br_f (by decide) (br_t (by decide) (br_f (by decide) h)))))))))
    · exact nm_e (br_f (by decide) (br_f (by decide) (br_f (by decide) (br_f (by decide) (br_f (by decide) (br_f (by decide) (br_f (by decide) (br_t (by decide) (br_t (by decide) h)))))))))
  | 8, _, h => exact nm_e (br_f (by decide) (br_f (by decide) (br_f (by decide) (br_f (by decide) (br_f (by decide) (br_f (by decide) (br_f (by decide) (br_f (by decide) (br_t (by decide) ⟨by decide, ek_v (cf_y8 a b c) h⟩)))))))))
  | 9, _, h => exact nm_e (br_f (by decide) (br_f (by decide) (br_f (by decide) (br_f (by decide) (br_f (by decide) (br_f (by decide) (br_f (by decide) (br_f (by decide) (br_f (by decide) (⟨by decide, ek_v (cf_y9 a b c) h⟩))))))))))
/-! the table of a kind -/
def cf_tb (K : Nat) : Nat → Int32
  | 0 => 0
  | m + 1 => cf_tb K m ||| (cf_bi (cf_mk K (m.testBit 0) (m.testBit 1) (m.testBit 2)) <<< (nI m &&& 31))
def cf_ix (a b c : Bool) : Nat := a.toNat + 2 * b.toNat + 4 * c.toNat
theorem cf_ix8 : ∀ a b c : Bool, cf_ix a b c < 8 := by decide
theorem cf_ixI : ∀ a b c : Bool, ((cf_bi a ||| (cf_bi b <<< ((1 : Int32) &&& 31))) ||| (cf_bi c <<< ((2 : Int32) &&& 31))) = nI (cf_ix a b c) := by decide
theorem cf_tbx : ∀ K, K < 10 → ∀ a b c : Bool, bt (cf_tb K 8) (cf_ix a b c) = cf_mk K a b c := by decide +kernel
theorem cf_m0 : ∀ m, m < 8 → nI m &&& 1 = cf_bi (m.testBit 0) := by decide +kernel
theorem cf_m1 : ∀ m, m < 8 → (nI m >>> ((1 : Int32) &&& 31)) &&& 1 = cf_bi (m.testBit 1) := by decide +kernel
theorem cf_m2 : ∀ m, m < 8 → nI m >>> ((2 : Int32) &&& 31) = cf_bi (m.testBit 2) := by decide +kernel
theorem cf_tX {post : Int32 → Prop} {K : Nat} (hK : K < 10) (h : post (cf_tb K 8)) : wpX_tableOfKind post (nI K) := by
  refine loop_0 (fun n i s => wX_tableOfKind_4 post (nI K) n s (nI i)) (fun i s => s = cf_tb K i) 8 0 rfl (fun n s hs => br_t (by decide) (by rw [hs]; exact h)) ?_
  intro n i s hi hs k
  refine br_f (nI_ge (b := 8) hi (by decide)) ?_
  rw [cf_m0 i hi, cf_m1 i hi, cf_m2 i hi]
  refine cf_kX hK _ _ _ (nm_e (nm_r (nI_1 i) (k _ ?_)))
  rw [hs]
  rfl
end
